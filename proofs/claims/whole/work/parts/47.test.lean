/-! tests: the class's descent beside the reference's stack -/
theorem bnd_bnd {α β γ : Type} (o : Option α) (f : α → Option β) (g : β → Option γ) : bnd (bnd o f) g = bnd o (fun a => bnd (f a) g) := by cases o <;> rfl
/-- the reference's end of a test -/
noncomputable def tEnd (κ : Ko) (v33 : Nat) (s35 : AS) : Option (Int32 × AS) := bnd (f_R_isInside κ v33 s35) (fun v36 => if v36 = 0 then bnd (f_R_settles κ v33 (1 : Int32) s35) (fun s37 => some ((1 : Int32), s37)) else bnd2 (f_R_see κ v33 s35) (fun v38 s39 => grd (((f_R_fails κ v33 (0 : Int32) (gi s39 v33 11) s39).1) = 0 ∨ ((f_R_fails κ v33 (0 : Int32) (gi s39 v33 11) s39).1) = 1) (some (((f_R_fails κ v33 (0 : Int32) (gi s39 v33 11) s39).1), ((f_R_fails κ v33 (0 : Int32) (gi s39 v33 11) s39).2)))))
/-- what follows a joining word -/
noncomputable def tJoin (κ : Ko) (d a0 : Nat) (v11 : Int32) (s12 : AS) : Option (Int32 × AS) := if v11 = 0 then L_R_tested_12 κ (tEnd κ) d a0 v11 s12 else bnd2 (f_R_isWord κ a0 (6385252 : Int64) s12) (fun v13 s14 => bnd (f_R_passWord κ a0 s14) (fun s15 => bnd (f_R_settles κ a0 (f_R_prec κ (if v13 = 0 then (13 : Int32) else (12 : Int32) : Int32) s15) s15) (fun s16 => grd (vp_in (gi s16 a0 19) 400) (L_R_tested_12 κ (tEnd κ) d a0 v11 (ui (ui s16 (a0 + 11) (gi s16 a0 19 : Int32).toNatClampNeg (if v13 = 0 then (13 : Int32) else (12 : Int32) : Int32)) a0 19 ((gi (ui s16 (a0 + 11) (gi s16 a0 19 : Int32).toNatClampNeg (if v13 = 0 then (13 : Int32) else (12 : Int32) : Int32)) a0 19) + 1))))))
/-- behind the closings -/
noncomputable def tRest (κ : Ko) (d a0 : Nat) (s3 : AS) : Option (Int32 × AS) := bnd2 (f_R_isWord κ a0 (6385252 : Int64) s3) (fun v4 s5 => if v4 = 0 then bnd2 (f_R_isWord κ a0 (28530 : Int64) s5) (fun v6 s7 => if v6 = 0 then tJoin κ d a0 0 s7 else tJoin κ d a0 1 s7) else tJoin κ d a0 1 s5)
noncomputable def kFa (κ : Ko) (v20 : Nat) (s22 : AS) : Option (Int32 × AS) := bnd2 (f_R_compare κ v20 s22) (fun v23 s24 => grd (v23 = 0 ∨ v23 = 1) (some (v23, s24)))
noncomputable def CL (κ : Ko) (dc d q : Nat) (s : AS) : Option (Int32 × AS) := bnd (L_R_closes_5 κ dc q s) (tRest κ d q)
noncomputable def K3 (κ : Ko) (sf dc d q : Nat) (s : AS) : Option (Int32 × AS) := bnd (L_R_settles_0 κ sf q 3 s) (CL κ dc d q)
noncomputable def RF (κ : Ko) (df d q : Nat) (s : AS) : Option (Int32 × AS) := bnd2 (L_R_fact_2 κ (kFa κ) df q 1 s) (fun v1 s2 => if v1 = 0 then some ((0 : Int32), s2) else bnd (f_R_closes κ q s2) (tRest κ d q))
theorem tested_e (κ : Ko) (d q : Nat) (s : AS) : L_R_tested_12 κ (tEnd κ) (d + 1) q 1 s = RF κ FU d q s := rfl
theorem tested_0 (κ : Ko) (d q : Nat) (s : AS) : L_R_tested_12 κ (tEnd κ) (d + 1) q 0 s = tEnd κ q s := rfl
theorem tested_s {κ : Ko} {d d' q : Nat} {s : AS} (h : d = d' + 1) : L_R_tested_12 κ (tEnd κ) d q 1 s = RF κ FU d' q s := by subst h; rfl
theorem f_tested_e (κ : Ko) (q : Nat) (s : AS) : f_R_tested κ q s = RF κ FU (FU - 1) q (ui (ui s q 19 0) q 16 0) := (show f_R_tested κ q s = L_R_tested_12 κ (tEnd κ) FU q 1 (ui (ui s q 19 0) q 16 0) from rfl).trans (tested_s (by unfold FU; rfl))
theorem RF_1 (κ : Ko) (d q : Nat) (s : AS) : bnd (f_R_closes κ q s) (tRest κ d q) = K3 κ FU FU d q s := by
  unfold f_R_closes f_R_settles K3 CL
  rw [bnd_bnd]
section Rest
variable {κ : Ko} {a ta A t iw n q p dp : Nat} {T : Nat → Nat} {rs : AS} {m : Int32} {L : List (Nat × Nat)} {O : List Nat}
/-- the word that stands at the next place -/
def wnx (T : Nat → Nat) (n p : Nat) (cs : List Nat) : Bool := wqB T (skp T n p) (wen T n (skp T n p)) cs
theorem wnx_e {p' : Nat} (h : skp T n p' = skp T n p) (cs : List Nat) : wnx T n p' cs = wnx T n p cs := by unfold wnx; rw [h]
theorem wnx_one {p : Nat} {cs es : List Nat} (h : wnx T n p cs = true) (hne : cs ≠ es) : wnx T n p es = false := by
  have h1 := of_decide_eq_true h
  refine decide_eq_false (fun z => hne ?_)
  apply List.ext_getElem (by omega)
  intro k k1 k2
  have a1 := h1.2 k k1
  have a2 := z.2 k k2
  rw [List.getD_eq_getElem?_getD, List.getElem?_eq_getElem k1] at a1
  rw [List.getD_eq_getElem?_getD, List.getElem?_eq_getElem k2] at a2
  exact a1.symm.trans a2
theorem wnx_lt {p : Nat} {cs : List Nat} (h : wnx T n p cs = true) : wen T n (skp T n p) = skp T n p + cs.length := (of_decide_eq_true h).1
theorem wRs_1 {p i : Nat} {cs : List Nat} (h : lw i = [cs]) : wRs T n p 0 i = if wnx T n p cs = true then some 0 else none := by
  unfold wRs
  rw [if_pos rfl, h, wAm, wAm]
  rfl
theorem r_pushO {c : Nat} {x : Int32} (hO : OST rs q O dp) (hx : x = nI c) (hl : O.length < 400) : vp_in (gi rs q 19) 400 ∧ OST (ui (ui rs (q + 11) (gi rs q 19 : Int32).toNatClampNeg x) q 19 ((gi (ui rs (q + 11) (gi rs q 19 : Int32).toNatClampNeg x) q 19) + 1)) q (O ++ [c]) dp ∧ Same (stW q) rs (ui (ui rs (q + 11) (gi rs q 19 : Int32).toNatClampNeg x) q 19 ((gi (ui rs (q + 11) (gi rs q 19 : Int32).toNatClampNeg x) q 19) + 1)) := by
  rw [gi_ui, if_neg (show ¬ (q = q + 11 ∧ 19 = (gi rs q 19 : Int32).toNatClampNeg) from fun z => by omega), hO.2.1, nI_clamp (by omega), nI_1, hx]
  exact ⟨vp_in_nI hl (by decide), hO.push, ((Same.rf _ rs).ui (Or.inr rfl)).ui (Or.inl ⟨rfl, by decide, by decide, by decide⟩)⟩
/-- a joining word: its test goes on -/
theorem r_restAnd (hc : PC κ a ta A t iw) {W B : Bool} {d : Nat} (h : RR_ rs q t n T p m L) (hO : OST rs q (O ++ pl W B) dp) (hb : bas O) (hl : L.length + (pc W B).length < 400) (hl2 : O.length + (pc W B).length < 400) (hw : wnx T n p [97, 110, 100] = true) :
    ∃ rs', tRest κ (d + 1) q rs = RF κ FU d q rs' ∧ RR_ rs' q t n T (wen T n (skp T n p)) m (L ++ pc false B) ∧ OST rs' q (O ++ pl W true) dp ∧ Same (pbW q t) rs rs' := by
  unfold tRest
  have hp := h.1.2.2.1
  have hss := skp_skp (T := T) hp
  obtain ⟨r1, g1, k1, v1⟩ := r_isWord (κ := κ) h.1 (cs := [97, 110, 100]) (y := 6385252) rfl rfl
  have R1 := h.of k1 v1
  rw [g1, bnd2_t, show wqB T (skp T n p) (wen T n (skp T n p)) [97, 110, 100] = true from hw, if_pos rfl, if_neg (show ¬ (1 : Int32) = 0 by decide)]
  unfold tJoin
  rw [if_neg (show ¬ (1 : Int32) = 0 by decide)]
  obtain ⟨r2, g2, k2, v2⟩ := r_isWord (κ := κ) R1.1 (cs := [97, 110, 100]) (y := 6385252) rfl rfl
  rw [hss] at g2 k2
  have R2 := R1.of k2 v2
  rw [g2, bnd2_t, show wqB T (skp T n p) (wen T n (skp T n p)) [97, 110, 100] = true from hw, if_pos rfl, if_neg (show ¬ (1 : Int32) = 0 by decide)]
  obtain ⟨r3, g3, k3, v3⟩ := r_pass (κ := κ) R2.1
  have R3 := R2.of k3 v3
  have O3 := ((hO.rq v1).rq v2).rq v3
  rw [g3, bnd_t]
  obtain ⟨r4, g4, k4, o4, v4⟩ := r_settle2 (κ := κ) hc (e := FU - 3) R3 O3 hb (Nat.le_of_lt hl) hl2
  have hpr : f_R_prec κ (12 : Int32) r3 = 2 := prc_e (κ := κ) (st := r3) (c := 12) (by decide)
  unfold f_R_settles
  rw [hpr, show FU = FU - 3 + 3 from rfl, g4, bnd_t]
  have hll : (O ++ pl W false).length < 400 := by
    have : (pl W false).length ≤ (pc W B).length := by cases W <;> cases B <;> decide
    rw [List.length_append]
    omega
  obtain ⟨a1, a2, a3⟩ := r_pushO (c := 12) (x := 12) o4 rfl hll
  rw [grd_t a1, tested_e]
  refine ⟨_, rfl, k4.st a3, ?_, (((rq_pb v1).tr (rq_pb v2)).tr (rq_pb v3)).tr (v4.tr (st_pb a3))⟩
  have : O ++ pl W true = O ++ pl W false ++ [12] := by unfold pl; cases W <;> simp
  rw [this]
  exact a2
theorem r_restOr (hc : PC κ a ta A t iw) {W B : Bool} {d : Nat} (h : RR_ rs q t n T p m L) (hO : OST rs q (O ++ pl W B) dp) (hb : bas O) (hl : L.length + (pc W B).length < 400) (hl2 : O.length + (pc W B).length < 400) (hw : wnx T n p [111, 114] = true) :
    ∃ rs', tRest κ (d + 1) q rs = RF κ FU d q rs' ∧ RR_ rs' q t n T (wen T n (skp T n p)) m (L ++ pc W B) ∧ OST rs' q (O ++ pl true false) dp ∧ Same (pbW q t) rs rs' := by
  unfold tRest
  have hp := h.1.2.2.1
  have hss := skp_skp (T := T) hp
  have hna := wnx_one hw (show [111, 114] ≠ [97, 110, 100] by decide)
  obtain ⟨r1, g1, k1, v1⟩ := r_isWord (κ := κ) h.1 (cs := [97, 110, 100]) (y := 6385252) rfl rfl
  have R1 := h.of k1 v1
  rw [g1, bnd2_t, show wqB T (skp T n p) (wen T n (skp T n p)) [97, 110, 100] = false from hna, if_neg (show ¬ (false = true) by decide), if_pos (show (0 : Int32) = 0 from rfl)]
  obtain ⟨r1', g1', k1', v1'⟩ := r_isWord (κ := κ) R1.1 (cs := [111, 114]) (y := 28530) rfl rfl
  rw [hss] at g1' k1'
  have R1' := R1.of k1' v1'
  rw [g1', bnd2_t, show wqB T (skp T n p) (wen T n (skp T n p)) [111, 114] = true from hw, if_pos rfl, if_neg (show ¬ (1 : Int32) = 0 by decide)]
  unfold tJoin
  rw [if_neg (show ¬ (1 : Int32) = 0 by decide)]
  obtain ⟨r2, g2, k2, v2⟩ := r_isWord (κ := κ) R1'.1 (cs := [97, 110, 100]) (y := 6385252) rfl rfl
  rw [hss] at g2 k2
  have R2 := R1'.of k2 v2
  rw [g2, bnd2_t, show wqB T (skp T n p) (wen T n (skp T n p)) [97, 110, 100] = false from hna, if_neg (show ¬ (false = true) by decide), if_pos (show (0 : Int32) = 0 from rfl)]
  obtain ⟨r3, g3, k3, v3⟩ := r_pass (κ := κ) R2.1
  have R3 := R2.of k3 v3
  have O3 := (((hO.rq v1).rq v1').rq v2).rq v3
  rw [g3, bnd_t]
  obtain ⟨r4, g4, k4, o4, v4⟩ := r_settle1 (κ := κ) hc (e := FU - 3) R3 O3 hb (Nat.le_of_lt hl) hl2
  have hpr : f_R_prec κ (13 : Int32) r3 = 1 := prc_e (κ := κ) (st := r3) (c := 13) (by decide)
  unfold f_R_settles
  rw [hpr, show FU = FU - 3 + 3 from rfl, g4, bnd_t]
  obtain ⟨a1, a2, a3⟩ := r_pushO (c := 13) (x := 13) o4 rfl (by omega)
  rw [grd_t a1, tested_e]
  exact ⟨_, rfl, k4.st a3, a2, ((((rq_pb v1).tr (rq_pb v1')).tr (rq_pb v2)).tr (rq_pb v3)).tr (v4.tr (st_pb a3))⟩
theorem r_restNo {d : Nat} (h : RR_ rs q t n T p m L) (ha : wnx T n p [97, 110, 100] = false) (ho : wnx T n p [111, 114] = false) :
    ∃ rs', tRest κ (d + 1) q rs = tEnd κ q rs' ∧ RR_ rs' q t n T (skp T n p) m L ∧ Same (rqW q) rs rs' := by
  unfold tRest
  have hp := h.1.2.2.1
  have hss := skp_skp (T := T) hp
  obtain ⟨r1, g1, k1, v1⟩ := r_isWord (κ := κ) h.1 (cs := [97, 110, 100]) (y := 6385252) rfl rfl
  have R1 := h.of k1 v1
  rw [g1, bnd2_t, show wqB T (skp T n p) (wen T n (skp T n p)) [97, 110, 100] = false from ha, if_neg (show ¬ (false = true) by decide), if_pos (show (0 : Int32) = 0 from rfl)]
  obtain ⟨r2, g2, k2, v2⟩ := r_isWord (κ := κ) R1.1 (cs := [111, 114]) (y := 28530) rfl rfl
  rw [hss] at g2 k2
  have R2 := R1.of k2 v2
  rw [g2, bnd2_t, show wqB T (skp T n p) (wen T n (skp T n p)) [111, 114] = false from ho, if_neg (show ¬ (false = true) by decide), if_pos (show (0 : Int32) = 0 from rfl)]
  unfold tJoin
  rw [if_pos (show (0 : Int32) = 0 from rfl), tested_0]
  exact ⟨r2, rfl, R2, v1.tr v2⟩
/-- the closings end at another sign -/
theorem r_clNo {dc d : Nat} (h : RR_ rs q t n T p m L) (hn : nxt T n p ≠ 93) : ∃ rs', CL κ (dc + 1) d q rs = tRest κ d q rs' ∧ RR_ rs' q t n T (skp T n p) m L ∧ Same (rqW q) rs rs' := by
  unfold CL
  rw [L_R_closes_5]
  obtain ⟨r1, g1, k1, v1⟩ := r_see (κ := κ) h.1
  rw [g1, bnd2_t, if_neg hn, bnd_t]
  exact ⟨r1, rfl, h.of k1 v1, v1⟩
end Rest
