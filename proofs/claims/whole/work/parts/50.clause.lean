/-! the reference's clause, piece by piece -/
noncomputable def cl4 (κ : Ko) (a0 : Nat) (v9 : Int32) (s23 : AS) : Option (Int32 × AS) := grd (vp_in (gi s23 a0 14) 18) (grd (vp_in (v9 + 4) 1080) (grd (vp_in (gi (ui s23 (a0 + 5) (v9 + 4 : Int32).toNatClampNeg (gi s23 (a0 + 4) (gi s23 a0 14 : Int32).toNatClampNeg)) a0 14) 18) (grd (vp_in (gi (ui s23 (a0 + 5) (v9 + 4 : Int32).toNatClampNeg (gi s23 (a0 + 4) (gi s23 a0 14 : Int32).toNatClampNeg)) a0 14) 18) (some ((1 : Int32), ui (ui s23 (a0 + 5) (v9 + 4 : Int32).toNatClampNeg (gi s23 (a0 + 4) (gi s23 a0 14 : Int32).toNatClampNeg)) (a0 + 6) (gi (ui s23 (a0 + 5) (v9 + 4 : Int32).toNatClampNeg (gi s23 (a0 + 4) (gi s23 a0 14 : Int32).toNatClampNeg)) a0 14 : Int32).toNatClampNeg ((gi (ui s23 (a0 + 5) (v9 + 4 : Int32).toNatClampNeg (gi s23 (a0 + 4) (gi s23 a0 14 : Int32).toNatClampNeg)) (a0 + 6) (gi (ui s23 (a0 + 5) (v9 + 4 : Int32).toNatClampNeg (gi s23 (a0 + 4) (gi s23 a0 14 : Int32).toNatClampNeg)) a0 14 : Int32).toNatClampNeg) + 1))))))
noncomputable def cl3 (κ : Ko) (a0 : Nat) (v9 : Int32) (s17 : AS) : Option (Int32 × AS) := grd (vp_in (gi s17 a0 14) 18) (grd (vp_in (v9 + 3) 1080) (bnd2 (f_R_tested κ a0 (ui s17 (a0 + 5) (v9 + 3 : Int32).toNatClampNeg (gi s17 (a0 + 4) (gi s17 a0 14 : Int32).toNatClampNeg))) (fun v20 s21 => if v20 = 0 then some ((0 : Int32), s21) else cl4 κ a0 v9 s21)))
noncomputable def cl2 (κ : Ko) (a0 : Nat) (x2 v9 : Int32) (s10 : AS) : Option (Int32 × AS) := grd (vp_in (gi s10 a0 14) 18) (grd (vp_in (v9 + 2) 1080) (grd (vp_in (v9 + 3) 1080) (if x2 = 0 then cl3 κ a0 v9 (ui (ui s10 (a0 + 5) (v9 + 2 : Int32).toNatClampNeg (gi s10 (a0 + 4) (gi s10 a0 14 : Int32).toNatClampNeg)) (a0 + 5) (v9 + 3 : Int32).toNatClampNeg ((-1))) else bnd2 (f_R_takesWord κ a0 (26982 : Int64) (ui (ui s10 (a0 + 5) (v9 + 2 : Int32).toNatClampNeg (gi s10 (a0 + 4) (gi s10 a0 14 : Int32).toNatClampNeg)) (a0 + 5) (v9 + 3 : Int32).toNatClampNeg ((-1)))) (fun v14 s15 => if v14 = 0 then cl4 κ a0 v9 s15 else cl3 κ a0 v9 s15))))
theorem f_clauseOf_e (κ : Ko) (a0 : Nat) (x1 x2 : Int32) (st : AS) : f_R_clauseOf κ a0 x1 x2 st = bnd (f_R_passWord κ a0 st) (fun s1 => grd (vp_in (gi s1 a0 14) 18) (grd (vp_in (((60 : Int32) * (gi s1 a0 14)) + ((5 : Int32) * (gi s1 (a0 + 6) (gi s1 a0 14 : Int32).toNatClampNeg))) 1080) (grd (vp_in (gi (ui s1 (a0 + 5) (((60 : Int32) * (gi s1 a0 14)) + ((5 : Int32) * (gi s1 (a0 + 6) (gi s1 a0 14 : Int32).toNatClampNeg)) : Int32).toNatClampNeg x1) a0 14) 18) (grd (vp_in ((((60 : Int32) * (gi s1 a0 14)) + ((5 : Int32) * (gi s1 (a0 + 6) (gi s1 a0 14 : Int32).toNatClampNeg))) + 1) 1080) (if x2 = 0 then cl2 κ a0 x2 (((60 : Int32) * (gi s1 a0 14)) + ((5 : Int32) * (gi s1 (a0 + 6) (gi s1 a0 14 : Int32).toNatClampNeg))) (ui (ui s1 (a0 + 5) (((60 : Int32) * (gi s1 a0 14)) + ((5 : Int32) * (gi s1 (a0 + 6) (gi s1 a0 14 : Int32).toNatClampNeg)) : Int32).toNatClampNeg x1) (a0 + 5) ((((60 : Int32) * (gi s1 a0 14)) + ((5 : Int32) * (gi s1 (a0 + 6) (gi s1 a0 14 : Int32).toNatClampNeg))) + 1 : Int32).toNatClampNeg (gi (ui s1 (a0 + 5) (((60 : Int32) * (gi s1 a0 14)) + ((5 : Int32) * (gi s1 (a0 + 6) (gi s1 a0 14 : Int32).toNatClampNeg)) : Int32).toNatClampNeg x1) (a0 + 4) (gi (ui s1 (a0 + 5) (((60 : Int32) * (gi s1 a0 14)) + ((5 : Int32) * (gi s1 (a0 + 6) (gi s1 a0 14 : Int32).toNatClampNeg)) : Int32).toNatClampNeg x1) a0 14 : Int32).toNatClampNeg)) else bnd2 (f_R_sum κ a0 (ui (ui s1 (a0 + 5) (((60 : Int32) * (gi s1 a0 14)) + ((5 : Int32) * (gi s1 (a0 + 6) (gi s1 a0 14 : Int32).toNatClampNeg)) : Int32).toNatClampNeg x1) (a0 + 5) ((((60 : Int32) * (gi s1 a0 14)) + ((5 : Int32) * (gi s1 (a0 + 6) (gi s1 a0 14 : Int32).toNatClampNeg))) + 1 : Int32).toNatClampNeg (gi (ui s1 (a0 + 5) (((60 : Int32) * (gi s1 a0 14)) + ((5 : Int32) * (gi s1 (a0 + 6) (gi s1 a0 14 : Int32).toNatClampNeg)) : Int32).toNatClampNeg x1) (a0 + 4) (gi (ui s1 (a0 + 5) (((60 : Int32) * (gi s1 a0 14)) + ((5 : Int32) * (gi s1 (a0 + 6) (gi s1 a0 14 : Int32).toNatClampNeg)) : Int32).toNatClampNeg x1) a0 14 : Int32).toNatClampNeg))) (fun v6 s7 => if v6 = 0 then some ((0 : Int32), s7) else cl2 κ a0 x2 (((60 : Int32) * (gi s1 a0 14)) + ((5 : Int32) * (gi s1 (a0 + 6) (gi s1 a0 14 : Int32).toNatClampNeg))) s7)))))) := rfl
section Tested
variable {κ : Ko} {a ta A t iw n q : Nat} {T : Nat → Nat}
/-- both go on well, the stack touched -/
def GOODB (κ : Ko) (a ta A iw q t n : Nat) (T : Nat → Nat) (Ld Lr : List (Nat × Nat)) (pd : Nat) (P : List (Nat × Nat) → Prop) (o : Option AS) (r : Option (Int32 × AS)) (ds rs : AS) : Prop :=
  ∃ ds' rs' R pd' pr' m', o = some ds' ∧ r = some (1, rs') ∧ PS κ ds' rs' a ta A iw q t n T pd' pr' (Ld ++ R) (Lr ++ R) m' ∧ P R ∧ pd < pd' ∧ pd + R.length ≤ pd' ∧ Same (pdW a A) ds ds' ∧ Same (pbW q t) rs rs'
theorem E_tested (hc : PC κ a ta A t iw) {pd pr m : Nat} {Ld Lr : List (Nat × Nat)} {ds rs : AS} (h : PS κ ds rs a ta A iw q t n T pd pr Ld Lr m) (hl1 : Ld.length ≤ pd) (hl2 : Lr.length ≤ pd) :
    GOODB κ a ta A iw q t n T Ld Lr pd TestR (g_Rd_test κ iw (f_Rd_fact κ iw 10) a 0 ds) (f_R_tested κ q rs) ds rs ∨ BADB κ a ta A iw q t n T (g_Rd_test κ iw (f_Rd_fact κ iw 10) a 0 ds) (f_R_tested κ q rs) ds rs := by
  rw [f_tested_e]
  obtain ⟨⟨hD, hC⟩, hR, hsk, hm, hv, hvc⟩ := h
  have w0 : Same (stW q) rs (ui (ui rs q 19 0) q 16 0) := ((Same.rf _ rs).ui (Or.inl ⟨rfl, by decide, by decide, by decide⟩)).ui (Or.inl ⟨rfl, by decide, by decide, by decide⟩)
  have O0 : OST (ui (ui rs q 19 0) q 16 0) q [] 0 := ⟨by rw [gi_ui, if_pos ⟨rfl, rfl⟩]; rfl, by rw [gi_ui, if_neg (fun z => by omega), gi_ui, if_pos ⟨rfl, rfl⟩]; rfl, fun k hk => by simp at hk⟩
  have hP : PS κ ds (ui (ui rs q 19 0) q 16 0) a ta A iw q t n T pd pr Ld Lr m := ⟨⟨hD, hC⟩, hR.st w0, hsk, hm, hv, hvc⟩
  rcases E_test (κ := κ) (q := q) (T := T) hc (E_fact hc 10) (dp := 0) rfl hP O0 (Or.inl rfl) hl1 hl2 (df := FU) (d := FU - 1) (by unfold FU; omega) (by unfold FU; omega) with ⟨ds3, rs3, R', W, B, pd3, pr3, m3, dc3, d3, a1, a2, a3, a4, a5, a6, a7, a8, ⟨f1, f2⟩, a9, a10⟩ | ⟨ds3, rs3, F, a1, a2, a3, a4, a5, a6⟩
  · left
    obtain ⟨⟨D3, C3⟩, Q3, sk3, mm3, v3, vc3⟩ := a3
    obtain ⟨hpn3, hn⟩ := D3.m
    obtain ⟨dc3, rfl⟩ : ∃ e, dc3 = e + 1 := ⟨dc3 - 1, by omega⟩
    obtain ⟨d3, rfl⟩ : ∃ e, d3 = e + 1 := ⟨d3 - 1, by omega⟩
    have hplen := pc_len W B
    have hss := skp_skp (T := T) hpn3
    have hsr := skp_skp (T := T) Q3.1.2.2.1
    have ll : (Lr ++ R').length = Lr.length + R'.length := List.length_append
    have a1' : g_Rd_test κ iw (f_Rd_fact κ iw 10) a 0 ds = some ds3 := a1
    rw [a1', a2]
    -- the closings end
    have h91 : ∀ j, j < (([] : List Nat) ++ pl W B).length → (([] : List Nat) ++ pl W B).getD j 0 < 128 ∧ (([] : List Nat) ++ pl W B).getD j 0 ≠ 91 := by
      rw [List.nil_append]
      cases W <;> cases B <;> decide
    have hol : (([] : List Nat) ++ pl W B).length ≤ 400 := by rw [List.nil_append]; omega
    obtain ⟨r4, g4, k4, v4⟩ : ∃ r4, L_R_closes_5 κ (dc3 + 1) q rs3 = some r4 ∧ RR_ r4 q t n T (skp T n pr3) (nI m3) (Lr ++ R') ∧ Same (rqW q) rs3 r4 := by
      rw [L_R_closes_5]
      obtain ⟨r4, g4, k4, v4⟩ := r_see (κ := κ) Q3.1
      have O4 := a5.rq v4
      rw [g4, bnd2_t]
      by_cases z : nxt T n pr3 = 93
      · rw [if_pos z, r_in0 (κ := κ) O4 hol h91, bnd_t, if_pos (show (0 : Int32) = 0 from rfl)]
        exact ⟨r4, rfl, Q3.of k4 v4, v4⟩
      · rw [if_neg z]
        exact ⟨r4, rfl, Q3.of k4 v4, v4⟩
    obtain ⟨r5, g5, k5, v5⟩ := r_restNo (κ := κ) (d := d3) k4 (by rw [wnx_e hsr, wnx_e sk3.symm]; exact a6.1) (by rw [wnx_e hsr, wnx_e sk3.symm]; exact a6.2)
    rw [hsr] at k5
    have O5 := (a5.rq v4).rq v5
    unfold CL
    rw [g4, bnd_t, g5]
    unfold tEnd
    rw [r_in0 (κ := κ) O5 hol h91, bnd_t, if_pos (show (0 : Int32) = 0 from rfl)]
    obtain ⟨r6, g6, k6, o6, v6⟩ := r_settle1 (κ := κ) hc (O := []) (e := FU - 3) k5 O5 (Or.inl rfl) (by omega) (by rw [List.length_nil]; omega)
    have hFU : FU = FU - 3 + 3 := rfl
    rw [show f_R_settles κ q 1 r5 = some r6 from by unfold f_R_settles; rw [hFU]; exact g6, bnd_t]
    exact ⟨ds3, r6, R' ++ pc W B, pd3, skp T n pr3, m3, rfl, rfl, ⟨⟨D3, C3⟩, by rw [← List.append_assoc]; exact k6, by rw [hsr]; exact sk3, mm3, v3, vc3⟩, a4, a7, by rw [List.length_append]; omega, a9, ((st_pb w0).tr a10).tr ((rq_pb (v4.tr v5)).tr v6)⟩
  · right
    exact ⟨ds3, rs3, F, a1, a2, a3, a4, a5, (st_pb w0).tr a6⟩
end Tested
/-- a clause: its sort, where its sum begins and ends, where its test ends -/
abbrev c4 : Type := Nat × Nat × Nat × Nat
def kg (K : List c4) (k : Nat) : c4 := K.getD k (0, 0, 0, 0)
theorem kg_lt {K : List c4} {x : c4} {k : Nat} (h : k < K.length) : kg (K ++ [x]) k = kg K k := by
  unfold kg
  rw [List.getD_eq_getElem?_getD, List.getD_eq_getElem?_getD, List.getElem?_append_left h]
theorem kg_e {K : List c4} {x : c4} : kg (K ++ [x]) K.length = x := by
  unfold kg
  rw [List.getD_eq_getElem?_getD, List.getElem?_append_right (Nat.le_refl _), Nat.sub_self]
  rfl
/-- the reference's clauses of a text -/
def KQ (rs : AS) (q t : Nat) (K : List c4) : Prop := gi rs (q + 6) t = nI K.length ∧ K.length ≤ 12 ∧ ∀ k, k < K.length →
  gi rs (q + 5) (60 * t + 5 * k) = nI (kg K k).1 ∧ gi rs (q + 5) (60 * t + 5 * k + 1) = nI (kg K k).2.1 ∧ gi rs (q + 5) (60 * t + 5 * k + 2) = nI (kg K k).2.2.1 ∧ gi rs (q + 5) (60 * t + 5 * k + 3) = (if (kg K k).2.2.2 = (kg K k).2.2.1 then -1 else nI (kg K k).2.2.1) ∧ gi rs (q + 5) (60 * t + 5 * k + 4) = nI (kg K k).2.2.2
/-- the class's clauses of a law -/
def KD (ds : AS) (a1 : Nat) (K : List c4) : Prop := gi ds a1 5 = nI K.length ∧ K.length ≤ 12 ∧ ∀ k, k < K.length →
  gi ds (a1 + 5) k = nI (kg K k).1 ∧ gi ds (a1 + 6) k = nI (kg K k).2.1 ∧ gi ds (a1 + 7) k = nI (kg K k).2.2.1 ∧ gi ds (a1 + 8) k = nI (kg K k).2.2.2
theorem KQ.of {rs rs' : AS} {q t : Nat} {K : List c4} {W : Nat → Nat → Prop} (h : KQ rs q t K) (hw : Same W rs rs') (h6 : ¬ W (q + 6) t) (h5 : ∀ j, j < 60 * t + 5 * K.length → ¬ W (q + 5) j) : KQ rs' q t K :=
  ⟨by rw [(hw _ _ h6).1]; exact h.1, h.2.1, fun k hk => by
    have := h.2.2 k hk
    rw [(hw _ _ (h5 (60 * t + 5 * k) (by omega))).1, (hw _ _ (h5 (60 * t + 5 * k + 1) (by omega))).1, (hw _ _ (h5 (60 * t + 5 * k + 2) (by omega))).1, (hw _ _ (h5 (60 * t + 5 * k + 3) (by omega))).1, (hw _ _ (h5 (60 * t + 5 * k + 4) (by omega))).1]
    exact this⟩
theorem KQ.pb {rs rs' : AS} {q t : Nat} {K : List c4} (h : KQ rs q t K) (hw : Same (pbW q t) rs rs') : KQ rs' q t K := h.of hw (fun z => by unfold pbW cqW at z; omega) (fun j _ z => by unfold pbW cqW at z; omega)
theorem KD.of {ds ds' : AS} {a1 : Nat} {K : List c4} {W : Nat → Nat → Prop} (h : KD ds a1 K) (hw : Same W ds ds') (h0 : ¬ W a1 5) (h1 : ∀ j d, 5 ≤ d → d < 9 → ¬ W (a1 + d) j) : KD ds' a1 K :=
  ⟨by rw [(hw _ _ h0).1]; exact h.1, h.2.1, fun k hk => by
    have := h.2.2 k hk
    rw [(hw _ _ (h1 k 5 (by decide) (by decide))).1, (hw _ _ (h1 k 6 (by decide) (by decide))).1, (hw _ _ (h1 k 7 (by decide) (by decide))).1, (hw _ _ (h1 k 8 (by decide) (by decide))).1]
    exact this⟩
theorem KD.pd {ds ds' : AS} {a a1 : Nat} {K : List c4} (ha : a + 4 < a1) (h : KD ds a1 K) (hw : Same (pdW a (a1 + 1)) ds ds') : KD ds' a1 K := h.of hw (fun z => by unfold pdW rdW cdW at z; omega) (fun j d h1 h2 z => by unfold pdW rdW cdW at z; omega)
/-- what a clause's code is -/
def lawC (L : List (Nat × Nat)) (c : c4) : Prop := ∃ X R S Y, L = X ++ R ++ S ++ Y ∧ c.2.1 = X.length ∧ c.2.2.1 = X.length + R.length ∧ c.2.2.2 = X.length + R.length + S.length ∧ c.1 < 2 ∧ SumR R ∧ (S = [] ∨ TestR S)
theorem lawC.mono {L Z : List (Nat × Nat)} {c : c4} (h : lawC L c) : lawC (L ++ Z) c := by
  obtain ⟨X, R, S, Y, rfl, h2⟩ := h
  exact ⟨X, R, S, Y ++ Z, by simp only [List.append_assoc], h2⟩
theorem TestR.ne {S : List (Nat × Nat)} (h : TestR S) : S.length ≠ 0 := by
  intro z
  have : S = [] := List.eq_nil_of_length_eq_zero z
  subst this
  obtain ⟨r, -, e⟩ := h (fun _ => 0) []
  rw [evl] at e
  cases e
def ckW (q t p j : Nat) : Prop := (p = q + 5 ∧ 60 * t ≤ j ∧ j < 60 * t + 60) ∨ (p = q + 6 ∧ j = t)
theorem RR_.ck {rs rs' : AS} {q t n p : Nat} {T : Nat → Nat} {m : Int32} {L : List (Nat × Nat)} (h : RR_ rs q t n T p m L) (hw : Same (ckW q t) rs rs') : RR_ rs' q t n T p m L := by
  have nq : ∀ j, ¬ ckW q t q j := fun j z => by unfold ckW at z; omega
  have n1 : ∀ j, ¬ ckW q t (q + 1) j := fun j z => by unfold ckW at z; omega
  exact ⟨⟨⟨by rw [(hw q 1 (nq _)).1]; exact h.1.1.1, h.1.1.2.1, fun k hk => by rw [(hw (q + 1) k (n1 _)).1]; exact h.1.1.2.2 k hk⟩, by rw [(hw q 11 (nq _)).1]; exact h.1.2.1, h.1.2.2.1, by rw [(hw q 12 (nq _)).1]; exact h.1.2.2.2.1, by rw [(hw q 15 (nq _)).1]; exact h.1.2.2.2.2⟩, by rw [(hw q 14 (nq _)).1]; exact h.2.1, h.2.2.of hw (fun z => by unfold ckW at z; omega) (fun j z => by unfold ckW at z; omega)⟩
section Cl
variable {κ : Ko} {t n q p : Nat} {T : Nat → Nat} {rs : AS} {m : Int32} {L : List (Nat × Nat)} {K : List c4}
theorem atN (t k : Nat) : (60 : Int32) * nI t + 5 * nI k = nI (60 * t + 5 * k) := by
  rw [show (60 : Int32) = nI 60 from rfl, show (5 : Int32) = nI 5 from rfl, nI_mul, nI_mul, nI_add]
theorem r_cl1 (ht : t < 18) (h : RR_ rs q t n T p m L) (hK : KQ rs q t K) (hk : K.length < 12) (x1 x2 : Int32) {rs0 : AS} (h0 : f_R_passWord κ q rs0 = some rs) :
    f_R_clauseOf κ q x1 x2 rs0 = (if x2 = 0 then cl2 κ q x2 (nI (60 * t + 5 * K.length)) (ui (ui rs (q + 5) (60 * t + 5 * K.length) x1) (q + 5) (60 * t + 5 * K.length + 1) (nI L.length)) else bnd2 (f_R_sum κ q (ui (ui rs (q + 5) (60 * t + 5 * K.length) x1) (q + 5) (60 * t + 5 * K.length + 1) (nI L.length))) (fun v6 s7 => if v6 = 0 then some ((0 : Int32), s7) else cl2 κ q x2 (nI (60 * t + 5 * K.length)) s7)) ∧
    Same (ckW q t) rs (ui (ui rs (q + 5) (60 * t + 5 * K.length) x1) (q + 5) (60 * t + 5 * K.length + 1) (nI L.length)) := by
  have e14 : ∀ j v, gi (ui rs (q + 5) j v) q 14 = nI t := fun j v => by rw [gi_ui, if_neg (fun z => by omega)]; exact h.2.1
  have e4 : ∀ j v, gi (ui rs (q + 5) j v) (q + 4) t = nI L.length := fun j v => by rw [gi_ui, if_neg (fun z => by omega)]; exact h.2.2.1
  rw [f_clauseOf_e, h0, bnd_t, h.2.1, nI_clamp (show t < 2 ^ 31 by omega), hK.1, atN, grd_t (vp_in_nI ht (by decide)), grd_t (vp_in_nI (by omega) (by decide)), nI_1, nI_clamp (show 60 * t + 5 * K.length < 2 ^ 31 by omega), nI_clamp (show 60 * t + 5 * K.length + 1 < 2 ^ 31 by omega), e14, nI_clamp (show t < 2 ^ 31 by omega), e4, grd_t (vp_in_nI ht (by decide)), grd_t (vp_in_nI (by omega) (by decide))]
  exact ⟨rfl, ((Same.rf _ rs).ui (Or.inl ⟨rfl, by omega, by omega⟩)).ui (Or.inl ⟨rfl, by omega, by omega⟩)⟩
theorem r_cl2 (ht : t < 18) (h : RR_ rs q t n T p m L) {k : Nat} (hk : k < 12) (x2 : Int32) :
    cl2 κ q x2 (nI (60 * t + 5 * k)) rs = (if x2 = 0 then cl3 κ q (nI (60 * t + 5 * k)) (ui (ui rs (q + 5) (60 * t + 5 * k + 2) (nI L.length)) (q + 5) (60 * t + 5 * k + 3) (-1)) else bnd2 (f_R_takesWord κ q 26982 (ui (ui rs (q + 5) (60 * t + 5 * k + 2) (nI L.length)) (q + 5) (60 * t + 5 * k + 3) (-1))) (fun v14 s15 => if v14 = 0 then cl4 κ q (nI (60 * t + 5 * k)) s15 else cl3 κ q (nI (60 * t + 5 * k)) s15)) ∧
    Same (ckW q t) rs (ui (ui rs (q + 5) (60 * t + 5 * k + 2) (nI L.length)) (q + 5) (60 * t + 5 * k + 3) (-1)) := by
  unfold cl2
  rw [h.2.1, nI_clamp (show t < 2 ^ 31 by omega), h.2.2.1, nI_k _ 2 (y := 2) rfl, nI_k _ 3 (y := 3) rfl, nI_clamp (show 60 * t + 5 * k + 2 < 2 ^ 31 by omega), nI_clamp (show 60 * t + 5 * k + 3 < 2 ^ 31 by omega), grd_t (vp_in_nI ht (by decide)), grd_t (vp_in_nI (by omega) (by decide)), grd_t (vp_in_nI (by omega) (by decide))]
  exact ⟨rfl, ((Same.rf _ rs).ui (Or.inl ⟨rfl, by omega, by omega⟩)).ui (Or.inl ⟨rfl, by omega, by omega⟩)⟩
theorem r_cl3 (ht : t < 18) (h : RR_ rs q t n T p m L) {k : Nat} (hk : k < 12) :
    cl3 κ q (nI (60 * t + 5 * k)) rs = bnd2 (f_R_tested κ q (ui rs (q + 5) (60 * t + 5 * k + 3) (nI L.length))) (fun v20 s21 => if v20 = 0 then some ((0 : Int32), s21) else cl4 κ q (nI (60 * t + 5 * k)) s21) ∧
    Same (ckW q t) rs (ui rs (q + 5) (60 * t + 5 * k + 3) (nI L.length)) := by
  unfold cl3
  rw [h.2.1, nI_clamp (show t < 2 ^ 31 by omega), h.2.2.1, nI_k _ 3 (y := 3) rfl, nI_clamp (show 60 * t + 5 * k + 3 < 2 ^ 31 by omega), grd_t (vp_in_nI ht (by decide)), grd_t (vp_in_nI (by omega) (by decide))]
  exact ⟨rfl, (Same.rf _ rs).ui (Or.inl ⟨rfl, by omega, by omega⟩)⟩
theorem r_cl4 (ht : t < 18) (h : RR_ rs q t n T p m L) {k : Nat} (hk : k < 12) (h6 : gi rs (q + 6) t = nI k) :
    cl4 κ q (nI (60 * t + 5 * k)) rs = some (1, ui (ui rs (q + 5) (60 * t + 5 * k + 4) (nI L.length)) (q + 6) t (nI (k + 1))) ∧
    Same (ckW q t) rs (ui (ui rs (q + 5) (60 * t + 5 * k + 4) (nI L.length)) (q + 6) t (nI (k + 1))) := by
  have e14 : ∀ j v, gi (ui rs (q + 5) j v) q 14 = nI t := fun j v => by rw [gi_ui, if_neg (fun z => by omega)]; exact h.2.1
  have e6 : ∀ j v, gi (ui rs (q + 5) j v) (q + 6) t = nI k := fun j v => by rw [gi_ui, if_neg (fun z => by omega)]; exact h6
  unfold cl4
  rw [h.2.1, nI_clamp (show t < 2 ^ 31 by omega), h.2.2.1, nI_k _ 4 (y := 4) rfl, nI_clamp (show 60 * t + 5 * k + 4 < 2 ^ 31 by omega), e14, nI_clamp (show t < 2 ^ 31 by omega), e6, grd_t (vp_in_nI ht (by decide)), grd_t (vp_in_nI (by omega) (by decide)), grd_t (vp_in_nI ht (by decide)), grd_t (vp_in_nI ht (by decide)), nI_1]
  exact ⟨rfl, ((Same.rf _ rs).ui (Or.inl ⟨rfl, by omega, by omega⟩)).ui (Or.inr ⟨rfl, rfl⟩)⟩
end Cl
