/-! literals: rows, and the JDK's own members over them -/
section Lit
variable {κ : Ko} {M M' : Mth} {pc ix n i : Nat} {Q : Option Value → AS → Prop} {lv lv2 : List (Option Value)} {As rest stk : List Value} {st : AS}
theorem j_val (hi : i < 11) (hM : (mY M).cls = "java/lang/String") (hd : decode (mC M) pc = .ok (.getfield 9, 3)) (k : V κ M Q (pc + 3) lv (.ref (kV (kt κ) i) :: rest) st) : V κ M Q pc lv (.ref (kK (kt κ) i) :: rest) st := by
  intro p e s m args below meth c0 H locs ls hc0 hz hP hS hll
  have hc1 := hc0
  obtain ⟨hx, hb, hml, hown, hts, hK, hret, hlk, hB, hnm⟩ := hc0
  rw [hM] at hown
  exact vk_getf hx hb (hK.2.2.1.2.2.1.1 i hi).2.2.1 hS hown (hts _ (Tg_of (t1_9 58 rfl) rfl)) (fun _ h => h) hd (k p e s m args below meth c0 H locs ls hc1 hz hP hS hll)
theorem j_coder (hi : i < 11) (hM : (mY M).cls = "java/lang/String") (hd : decode (mC M) pc = .ok (.getfield 15, 3)) (k : V κ M Q (pc + 3) lv (.int 0 :: rest) st) : V κ M Q pc lv (.ref (kK (kt κ) i) :: rest) st := by
  intro p e s m args below meth c0 H locs ls hc0 hz hP hS hll
  have hc1 := hc0
  obtain ⟨hx, hb, hml, hown, hts, hK, hret, hlk, hB, hnm⟩ := hc0
  rw [hM] at hown
  exact vk_getf hx hb (hK.2.2.1.2.2.1.1 i hi).2.1 hS hown (hts _ (Tg_of (t1_9 59 rfl) rfl)) (fun _ h => h) hd (k p e s m args below meth c0 H locs ls hc1 hz hP hS hll)
theorem j_compact (hM : (mY M).cls = "java/lang/String") (hd : decode (mC M) pc = .ok (.getstatic 38, 3)) (k : V κ M Q (pc + 3) lv (.int 1 :: rest) st) : V κ M Q pc lv rest st := by
  intro p e s m args below meth c0 H locs ls hc0 hz hP hS hll
  have hc1 := hc0
  obtain ⟨hx, hb, hml, hown, hts, hK, hret, hlk, hB, hnm⟩ := hc0
  rw [hM] at hown
  exact va_gets hx hb hK.2.2.1.2.2.2.2.1 hS hown (hts _ (Tg_of (t1_2 200 rfl) rfl)) (fun _ h => h) hd (k p e s m args below meth c0 H locs ls hc1 hz hP hS hll)
theorem j_siobe (hM : (mY M).cls = "java/lang/String") (hd : decode (mC M) pc = .ok (.getstatic 1053, 3)) (k : ∀ v, rv v → V κ M Q (pc + 3) lv (v :: rest) st) : V κ M Q pc lv rest st := by
  intro p e s m args below meth c0 H locs ls hc0 hz hP hS hll
  have hc1 := hc0
  obtain ⟨hx, hb, hml, hown, hts, hK, hret, hlk, hB, hnm⟩ := hc0
  rw [hM] at hown
  rcases hK.2.2.1.2.2.2.2.2 with h | ⟨t, h⟩
  · exact va_gets hx hb h hS hown (hts _ (Tg_of (t1_2 216 rfl) rfl)) (fun _ h => h) hd (k _ (Or.inl rfl) p e s m args below meth c0 H locs ls hc1 hz hP hS hll)
  · exact va_gets hx hb h hS hown (hts _ (Tg_of (t1_2 216 rfl) rfl)) (fun _ h => h) hd (k _ (Or.inr ⟨t, rfl⟩) p e s m args below meth c0 H locs ls hc1 hz hP hS hll)
theorem j_len (hi : i < 11) (hd : decode (mC M) pc = .ok (.arraylength, 1)) (k : V κ M Q (pc + 1) lv (.int (nI (litN.getD i 0)) :: rest) st) : V κ M Q pc lv (.ref (kV (kt κ) i) :: rest) st := by
  intro p e s m args below meth c0 H locs ls hc0 hz hP hS hll
  have hc1 := hc0
  obtain ⟨hx, hb, hml, hown, hts, hK, hret, hlk, hB, hnm⟩ := hc0
  exact va_tlen hx hb (hK.2.2.1.2.2.1.1 i hi).2.2.2 hS rfl hd (k p e s m args below meth c0 H locs ls hc1 hz hP hS hll)
theorem j_byte {j : Int32} (hi : i < 11) (hin : vp_in j (litN.getD i 0)) (hd : decode (mC M) pc = .ok (.baload, 1)) (k : V κ M Q (pc + 1) lv (.int ((litB.getD i []).getD j.toNatClampNeg 0) :: rest) st) : V κ M Q pc lv (.int j :: .ref (kV (kt κ) i) :: rest) st := by
  intro p e s m args below meth c0 H locs ls hc0 hz hP hS hll
  have hc1 := hc0
  obtain ⟨hx, hb, hml, hown, hts, hK, hret, hlk, hB, hnm⟩ := hc0
  exact va_tb hx hb (hK.2.2.1.2.2.1.1 i hi).2.2.2 hS hin rfl hd (k p e s m args below meth c0 H locs ls hc1 hz hP hS hll)
theorem v_invJ {q : Nat} {Q' : Option Value → AS → Prop} (hd : decode (mC M) pc = .ok (.invokevirtual ix, 3)) (hk : KV (mY M).cls ix M' n) (hR : RmOK M' M) (hN : NoC M') (hc : (mY M').cls = "java/lang/String") (hj : ∃ i, i < 11 ∧ q = kK (kt κ) i) (hs : stk = As.reverse ++ .ref q :: rest) (hn : As.length = n) (hW : (rest.map fun v => v.category).sum ≤ 8)
    (k : C κ M' (.ref q :: As) st Q') (hq : ∀ v st', Q' v st' → V κ M Q (pc + 3) lv (v.toList ++ rest) st') : V κ M Q pc lv stk st := by
  intro p e s m args below meth c0 H locs ls hc0 hz hP hS hll
  have hc1 := hc0
  obtain ⟨hx, hb, hml, hown, hts, hK, hret, hlk, hB, hnm⟩ := hc0
  obtain ⟨hm, hlink, hinst, hsel⟩ := hk
  obtain ⟨i, hi, rfl⟩ := hj
  subst hs
  have hrc : ∃ cell : Cell, H[kK (kt κ) i]? = some cell ∧ cell.vm.isStatics = false ∧ s.vm.findClass (mY M').cls = some cell.cls := by
    rw [hc]
    exact vk_recv hK.2.2.1.2.2.1 hi hS
  refine vgo (va_runV (As := As) (rest := rest) (C := (mY M').cls) ⟨hx, hb, hml, hown, hts⟩ k ⟨callB_of n hts (good_ws hm) rfl rfl rfl (hts _ hm.2.1) (hts _ hlink) ⟨hm.2.2.1, hm.2.2.2.1, hm.2.2.2.2⟩ hR, hts _ hinst, hts _ hsel⟩ ⟨PcX_blind, hrc, pcx_at hB hz hP hS hK⟩ rfl hn hll.1 rfl (lv_room hW) hd (n0 hN)) hS hB hz (Nat.le_refl _) fun v st' H1 locs1 hz1 hP1 hS1 h1 => ?_
  exact v0 hN (hq v st' h1) p e s m args below meth c0 H1 locs1 ls hc1 hz1 hP1 hS1 hll
theorem v_invJ_I {q : Nat} (hd : decode (mC M) pc = .ok (.invokevirtual ix, 3)) (hk : KV (mY M).cls ix M' n) (hR : RmOK M' M) (hN : NoC M') (hc : (mY M').cls = "java/lang/String") (hj : ∃ i, i < 11 ∧ q = kK (kt κ) i) (hs : stk = As.reverse ++ .ref q :: rest) (hn : As.length = n) (hW : (rest.map fun v => v.category).sum ≤ 8) (k : C κ M' (.ref q :: As) st (RI fun x st' => V κ M Q (pc + 3) lv2 (.int x :: rest) st')) (h2 : lsub lv2 lv) : V κ M Q pc lv stk st := by
  refine v_invJ hd hk hR hN hc hj hs hn hW k (fun v st' hq => ?_)
  obtain ⟨x, hv, h⟩ := hq
  subst hv
  exact VA.sub h2 h
theorem v_invJ_V {q : Nat} (hd : decode (mC M) pc = .ok (.invokevirtual ix, 3)) (hk : KV (mY M).cls ix M' n) (hR : RmOK M' M) (hN : NoC M') (hc : (mY M').cls = "java/lang/String") (hj : ∃ i, i < 11 ∧ q = kK (kt κ) i) (hs : stk = As.reverse ++ .ref q :: rest) (hn : As.length = n) (hW : (rest.map fun v => v.category).sum ≤ 8) (k : C κ M' (.ref q :: As) st (RV fun st' => V κ M Q (pc + 3) lv2 (rest) st')) (h2 : lsub lv2 lv) : V κ M Q pc lv stk st := by
  refine v_invJ hd hk hR hN hc hj hs hn hW k (fun v st' hq => ?_)
  obtain ⟨hv, h⟩ := hq
  subst hv
  exact VA.sub h2 h
end Lit
theorem c_Js_coder {κ : Ko} {F : Int32 → AS → Prop} {i : Nat} {st : AS} (hi : i < 11) (k : F 0 st) : C κ M_Js_coder [.ref (kK (kt κ) i)] st (RI F) :=
  CA_of (lv := [some (.ref (kK (kt κ) i))]) (by decide) (Nat.le_of_ble_eq_true rfl) (And.intro rfl trivial) (show V κ M_Js_coder (RI F) 0 [some (.ref (kK (kt κ) i))] [] st from
  j_compact rfl (show decode prog_17_method_152_code 0 = .ok (.getstatic 38, 3) from by decide +kernel) (r_if_eq (tgt := 13) (show decode prog_17_method_152_code 3 = .ok (.ifCond .eq 10, 3) from by decide +kernel) (by decide) (fun z => absurd z (by decide)) (fun _ => r_aload_n (i := 0) (show decode prog_17_method_152_code 6 = .ok (.aload_n 0, 1) from by decide +kernel) rfl rfl (j_coder hi rfl (show decode prog_17_method_152_code 7 = .ok (.getfield 15, 3) from by decide +kernel) (r_goto (tgt := 14) (show decode prog_17_method_152_code 10 = .ok (.goto 4, 3) from by decide +kernel) (by decide) (r_ireturn (show decode prog_17_method_152_code 14 = .ok (.ireturn, 1) from by decide +kernel) rfl rfl (Nat.zero_le _) (Nat.zero_le _) ⟨0, rfl, k⟩))))))
theorem c_Js_length {κ : Ko} {F : Int32 → AS → Prop} {i : Nat} {st : AS} (hi : i < 11) (k : F (nI (litN.getD i 0)) st) : C κ M_Js_length [.ref (kK (kt κ) i)] st (RI F) :=
  CA_of (lv := [some (.ref (kK (kt κ) i))]) (by decide) (Nat.le_of_ble_eq_true rfl) (And.intro rfl trivial) (show V κ M_Js_length (RI F) 0 [some (.ref (kK (kt κ) i))] [] st from
  r_aload_n (i := 0) (show decode prog_17_method_54_code 0 = .ok (.aload_n 0, 1) from by decide +kernel) rfl rfl (j_val hi rfl (show decode prog_17_method_54_code 1 = .ok (.getfield 9, 3) from by decide +kernel) (j_len hi (show decode prog_17_method_54_code 4 = .ok (.arraylength, 1) from by decide +kernel) (r_aload_n (i := 0) (show decode prog_17_method_54_code 5 = .ok (.aload_n 0, 1) from by decide +kernel) rfl rfl (v_invJ_I (lv2 := [none]) (As := []) (rest := [.int (nI (litN.getD i 0))]) (show decode prog_17_method_54_code 6 = .ok (.invokevirtual 335, 3) from by decide +kernel) kl_Js_335 rm_Js_length_Js_coder noc_Js_coder rfl ⟨i, hi, rfl⟩ rfl rfl (Nat.le_of_ble_eq_true rfl) (c_Js_coder hi (r_ishr (show decode prog_17_method_54_code 9 = .ok (.ishr, 1) from by decide +kernel) (r_ireturn (show decode prog_17_method_54_code 10 = .ok (.ireturn, 1) from by decide +kernel) rfl rfl (Nat.zero_le _) (Nat.zero_le _) ⟨_, rfl, by
    rw [show nI (litN.getD i 0) >>> ((0 : Int32) &&& 31) = nI (litN.getD i 0) from sc_shr0 (show litN.getD i 0 < 2 ^ 31 from (by decide +kernel : ∀ i, i < 11 → litN.getD i 0 < 2 ^ 31) i hi)]
    exact k⟩))) trivial)))))
theorem c_Js_isLatin1 {κ : Ko} {F : Int32 → AS → Prop} {i : Nat} {st : AS} (hi : i < 11) (k : F 1 st) : C κ M_Js_isLatin1 [.ref (kK (kt κ) i)] st (RI F) :=
  CA_of (lv := [some (.ref (kK (kt κ) i))]) (by decide) (Nat.le_of_ble_eq_true rfl) (And.intro rfl trivial) (show V κ M_Js_isLatin1 (RI F) 0 [some (.ref (kK (kt κ) i))] [] st from
  j_compact rfl (show decode prog_17_method_154_code 0 = .ok (.getstatic 38, 3) from by decide +kernel) (r_if_eq (tgt := 17) (show decode prog_17_method_154_code 3 = .ok (.ifCond .eq 14, 3) from by decide +kernel) (by decide) (fun z => absurd z (by decide)) (fun _ => r_aload_n (i := 0) (show decode prog_17_method_154_code 6 = .ok (.aload_n 0, 1) from by decide +kernel) rfl rfl (j_coder hi rfl (show decode prog_17_method_154_code 7 = .ok (.getfield 15, 3) from by decide +kernel) (r_if_ne (tgt := 17) (show decode prog_17_method_154_code 10 = .ok (.ifCond .ne 7, 3) from by decide +kernel) (by decide) (fun z => absurd rfl z) (fun _ => r_iconst (v := 1) (show decode prog_17_method_154_code 13 = .ok (.iconst 1, 1) from by decide +kernel) (by decide) (r_goto (tgt := 18) (show decode prog_17_method_154_code 14 = .ok (.goto 4, 3) from by decide +kernel) (by decide) (r_ireturn (show decode prog_17_method_154_code 18 = .ok (.ireturn, 1) from by decide +kernel) rfl rfl (Nat.zero_le _) (Nat.zero_le _) ⟨1, rfl, k⟩))))))))
theorem c_Jp_checkIndex {κ : Ko} {F : Int32 → AS → Prop} {x n : Int32} {v : Value} {st : AS} (hv : rv v) (h0 : ¬ x < 0) (h1 : x < n) (k : F x st) : C κ M_Jp_checkIndex [.int x, .int n, v] st (RI F) :=
  CA_of (lv := [some (.int x), some (.int n), none]) (by decide) (by rcases hv with rfl | ⟨a, rfl⟩ <;> exact Nat.le_of_ble_eq_true rfl) (And.intro rfl (And.intro rfl (by rcases hv with rfl | ⟨a, rfl⟩ <;> exact trivial))) (show V κ M_Jp_checkIndex (RI F) 0 [some (.int x), some (.int n), none] [] st from
  r_iload_n (i := 0) (show decode prog_21_method_11_code 0 = .ok (.iload_n 0, 1) from by decide +kernel) rfl rfl (r_if_lt (tgt := 9) (show decode prog_21_method_11_code 1 = .ok (.ifCond .lt 8, 3) from by decide +kernel) (by decide) (fun z => absurd z h0) (fun _ => r_iload_n (i := 0) (show decode prog_21_method_11_code 4 = .ok (.iload_n 0, 1) from by decide +kernel) rfl rfl (r_iload_n (i := 1) (show decode prog_21_method_11_code 5 = .ok (.iload_n 1, 1) from by decide +kernel) rfl rfl (r_icmp_lt (tgt := 16) (show decode prog_21_method_11_code 6 = .ok (.if_icmp .lt 10, 3) from by decide +kernel) (by decide) (fun _ => r_iload_n (i := 0) (show decode prog_21_method_11_code 16 = .ok (.iload_n 0, 1) from by decide +kernel) rfl rfl (r_ireturn (show decode prog_21_method_11_code 17 = .ok (.ireturn, 1) from by decide +kernel) rfl rfl (Nat.zero_le _) (Nat.zero_le _) ⟨x, rfl, k⟩)) (fun z => absurd h1 z))))))
theorem c_Js_checkIndex {κ : Ko} {F : AS → Prop} {x n : Int32} {st : AS} (h0 : ¬ x < 0) (h1 : x < n) (k : F st) : C κ M_Js_checkIndex [.int x, .int n] st (RV F) :=
  CA_of (lv := [some (.int x), some (.int n)]) (by decide) (Nat.le_of_ble_eq_true rfl) (And.intro rfl (And.intro rfl trivial)) (show V κ M_Js_checkIndex (RV F) 0 [some (.int x), some (.int n)] [] st from
  r_iload_n (i := 0) (show decode prog_17_method_155_code 0 = .ok (.iload_n 0, 1) from by decide +kernel) rfl rfl (r_iload_n (i := 1) (show decode prog_17_method_155_code 1 = .ok (.iload_n 1, 1) from by decide +kernel) rfl rfl (j_siobe rfl (show decode prog_17_method_155_code 2 = .ok (.getstatic 1053, 3) from by decide +kernel) (fun v hv => v_invS_I (lv2 := [none, none]) (As := [.int x, .int n, v]) (rest := []) (show decode prog_17_method_155_code 5 = .ok (.invokestatic 1059, 3) from by decide +kernel) kl_Js_1059 rm_Js_checkIndex_Jp_checkIndex noc_Jp_checkIndex rfl rfl (Nat.le_of_ble_eq_true rfl) (c_Jp_checkIndex hv h0 h1 (r_pop (show decode prog_17_method_155_code 8 = .ok (.pop, 1) from by decide +kernel) rfl (r_vreturn (show decode prog_17_method_155_code 9 = .ok (.return_, 1) from by decide +kernel) rfl (Nat.zero_le _) (Nat.zero_le _) ⟨rfl, k⟩))) trivial))))
/-- the sign of a literal at a place -/
def litC (i k : Nat) : Int32 := (litB.getD i []).getD k 0
theorem litC_ok : ∀ i, i < 11 → ∀ k, k < litN.getD i 0 → (((litC i k &&& 255).toUInt32 % 65536).toInt32 = litC i k ∧ narrow .char (.int (litC i k)) = .int (litC i k)) := by decide +kernel
theorem c_Jl_charAt {κ : Ko} {F : Int32 → AS → Prop} {i j : Nat} {st : AS} (hi : i < 11) (hj : j < litN.getD i 0) (k : F (litC i j) st) : C κ M_Jl_charAt [.ref (kV (kt κ) i), .int (nI j)] st (RI F) := by
  have hb : litN.getD i 0 < 2 ^ 31 := (by decide +kernel : ∀ i, i < 11 → litN.getD i 0 < 2 ^ 31) i hi
  have hcl : (nI j).toNatClampNeg = j := nI_clamp (by omega)
  obtain ⟨e1, e2⟩ := litC_ok i hi j hj
  exact CA_of (lv := [some (.ref (kV (kt κ) i)), some (.int (nI j))]) (by decide) (Nat.le_of_ble_eq_true rfl) (And.intro rfl (And.intro rfl trivial)) (show V κ M_Jl_charAt (RI F) 0 [some (.ref (kV (kt κ) i)), some (.int (nI j))] [] st from
  r_iload_n (i := 1) (show decode prog_18_method_2_code 0 = .ok (.iload_n 1, 1) from by decide +kernel) rfl rfl (r_aload_n (i := 0) (show decode prog_18_method_2_code 1 = .ok (.aload_n 0, 1) from by decide +kernel) rfl rfl (j_len hi (show decode prog_18_method_2_code 2 = .ok (.arraylength, 1) from by decide +kernel) (v_invS_V (lv2 := [some (.ref (kV (kt κ) i)), some (.int (nI j))]) (As := [.int (nI j), .int (nI (litN.getD i 0))]) (rest := []) (show decode prog_18_method_2_code 3 = .ok (.invokestatic 9, 3) from by decide +kernel) kl_Jl_9 rm_Jl_charAt_Js_checkIndex noc_Js_checkIndex rfl rfl (Nat.le_of_ble_eq_true rfl) (c_Js_checkIndex (nI_pos (by omega)) (nI_lt hj hb)
    (r_aload_n (i := 0) (show decode prog_18_method_2_code 6 = .ok (.aload_n 0, 1) from by decide +kernel) rfl rfl (r_iload_n (i := 1) (show decode prog_18_method_2_code 7 = .ok (.iload_n 1, 1) from by decide +kernel) rfl rfl (j_byte hi (vp_in_nI hj hb) (show decode prog_18_method_2_code 8 = .ok (.baload, 1) from by decide +kernel) (r_sipush (v := 255) (show decode prog_18_method_2_code 9 = .ok (.sipush 255, 3) from by decide +kernel) (by decide) (r_iand (show decode prog_18_method_2_code 12 = .ok (.iand, 1) from by decide +kernel) (r_i2c (show decode prog_18_method_2_code 13 = .ok (.i2c, 1) from by decide +kernel) (r_ireturn (show decode prog_18_method_2_code 14 = .ok (.ireturn, 1) from by decide +kernel) rfl (by rw [hcl]; show narrow .char (.int ((litC i j &&& 255).toUInt32 % 65536).toInt32) = .int ((litC i j &&& 255).toUInt32 % 65536).toInt32; rw [e1]; exact e2) (Nat.zero_le _) (Nat.zero_le _) ⟨_, rfl, by rw [hcl]; show F ((litC i j &&& 255).toUInt32 % 65536).toInt32 st; rw [e1]; exact k⟩)))))))) (And.intro rfl (And.intro rfl trivial))))))
theorem c_Js_charAt {κ : Ko} {F : Int32 → AS → Prop} {i j : Nat} {st : AS} (hi : i < 11) (hj : j < litN.getD i 0) (k : F (litC i j) st) : C κ M_Js_charAt [.ref (kK (kt κ) i), .int (nI j)] st (RI F) :=
  CA_of (lv := [some (.ref (kK (kt κ) i)), some (.int (nI j))]) (by decide) (Nat.le_of_ble_eq_true rfl) (And.intro rfl (And.intro rfl trivial)) (show V κ M_Js_charAt (RI F) 0 [some (.ref (kK (kt κ) i)), some (.int (nI j))] [] st from
  r_aload_n (i := 0) (show decode prog_17_method_56_code 0 = .ok (.aload_n 0, 1) from by decide +kernel) rfl rfl (v_invJ_I (lv2 := [some (.ref (kK (kt κ) i)), some (.int (nI j))]) (As := []) (rest := []) (show decode prog_17_method_56_code 1 = .ok (.invokevirtual 492, 3) from by decide +kernel) kl_Js_492 rm_Js_charAt_Js_isLatin1 noc_Js_isLatin1 rfl ⟨i, hi, rfl⟩ rfl rfl (Nat.le_of_ble_eq_true rfl) (c_Js_isLatin1 hi
    (r_if_eq (tgt := 16) (show decode prog_17_method_56_code 4 = .ok (.ifCond .eq 12, 3) from by decide +kernel) (by decide) (fun z => absurd z (by decide)) (fun _ => r_aload_n (i := 0) (show decode prog_17_method_56_code 7 = .ok (.aload_n 0, 1) from by decide +kernel) rfl rfl (j_val hi rfl (show decode prog_17_method_56_code 8 = .ok (.getfield 9, 3) from by decide +kernel) (r_iload_n (i := 1) (show decode prog_17_method_56_code 11 = .ok (.iload_n 1, 1) from by decide +kernel) rfl rfl (v_invS_I (lv2 := [none, none]) (As := [.ref (kV (kt κ) i), .int (nI j)]) (rest := []) (show decode prog_17_method_56_code 12 = .ok (.invokestatic 495, 3) from by decide +kernel) kl_Js_495 rm_Js_charAt_Jl_charAt noc_Jl_charAt rfl rfl (Nat.le_of_ble_eq_true rfl) (c_Jl_charAt hi hj
      (r_ireturn (show decode prog_17_method_56_code 15 = .ok (.ireturn, 1) from by decide +kernel) rfl (litC_ok i hi j hj).2 (Nat.zero_le _) (Nat.zero_le _) ⟨_, rfl, k⟩)) trivial)))))) (And.intro rfl (And.intro rfl trivial))))
