/-! codes as lists; what the readers add -/
def evl (w : Nat → Int64) : List (Nat × Nat) → List Int64 → Option (List Int64)
  | [], l => some l
  | x :: xs, l => match cstp x.1 x.2 w l with | none => none | some l' => evl w xs l'
theorem evl_app (w : Nat → Int64) : ∀ (A B : List (Nat × Nat)) (l : List Int64), evl w (A ++ B) l = match evl w A l with | none => none | some l' => evl w B l'
  | [], B, l => rfl
  | x :: A, B, l => by
    rw [List.cons_append, evl, evl]
    cases cstp x.1 x.2 w l with
    | none => rfl
    | some l' => exact evl_app w A B l'
def SumR (R : List (Nat × Nat)) : Prop := ∀ w l, ∃ r, evl w R l = some (r :: l)
def TestR (R : List (Nat × Nat)) : Prop := ∀ w l, ∃ r, (r = 0 ∨ r = 1) ∧ evl w R l = some (r :: l)
theorem SumR.val {s v : Nat} (h : s = 0 ∨ s = 1 ∧ v < 8) : SumR [(s, v)] := by
  intro w l
  rcases h with rfl | ⟨rfl, h8⟩
  · exact ⟨_, rfl⟩
  · refine ⟨w v, ?_⟩
    have hc : cstp 1 v w l = some (w v :: l) := by
      unfold cstp
      rw [if_neg (by decide), if_pos rfl, if_pos h8]
    unfold evl
    simp only [hc]
    rfl
theorem join2 {A B : List (Nat × Nat)} {s : Nat} (w : Nat → Int64) (l : List Int64) {x y : Int64} (ha : evl w A l = some (x :: l)) (hb : evl w B (x :: l) = some (y :: x :: l)) (h1 : 2 ≤ s) (h2 : s ≠ 11) (h3 : s < 14) : evl w (A ++ B ++ [(s, 0)]) l = some (opv s x y :: l) := by
  rw [evl_app, evl_app, ha]
  simp only [hb]
  rw [evl, cstp, if_neg (by simp only; omega), if_neg (by simp only; omega), if_neg (by simpa using h2), if_pos (by simpa using h3)]
  rfl
theorem SumR.op {A B : List (Nat × Nat)} {s : Nat} (ha : SumR A) (hb : SumR B) (h1 : 2 ≤ s) (h2 : s < 6) : SumR (A ++ B ++ [(s, 0)]) := by
  intro w l
  obtain ⟨x, hx⟩ := ha w l
  obtain ⟨y, hy⟩ := hb w (x :: l)
  exact ⟨_, join2 w l hx hy h1 (by omega) (by omega)⟩
theorem TestR.cmp {A B : List (Nat × Nat)} {s : Nat} (ha : SumR A) (hb : SumR B) (h1 : 6 ≤ s) (h2 : s < 11) : TestR (A ++ B ++ [(s, 0)]) := by
  intro w l
  obtain ⟨x, hx⟩ := ha w l
  obtain ⟨y, hy⟩ := hb w (x :: l)
  refine ⟨_, ?_, join2 w l hx hy (by omega) (by omega) (by omega)⟩
  have hc : s = 6 ∨ s = 7 ∨ s = 8 ∨ s = 9 ∨ s = 10 := by omega
  rcases hc with rfl | rfl | rfl | rfl | rfl
  all_goals
    unfold opv
    simp only [Nat.reduceEqDiff, if_false, if_true]
    split
    · first | exact Or.inl rfl | exact Or.inr rfl
    · first | exact Or.inl rfl | exact Or.inr rfl
theorem TestR.bin {A B : List (Nat × Nat)} {s : Nat} (ha : TestR A) (hb : TestR B) (h1 : s = 12 ∨ s = 13) : TestR (A ++ B ++ [(s, 0)]) := by
  intro w l
  obtain ⟨x, hx0, hx⟩ := ha w l
  obtain ⟨y, hy0, hy⟩ := hb w (x :: l)
  refine ⟨_, ?_, join2 w l hx hy (by omega) (by omega) (by omega)⟩
  rcases h1 with rfl | rfl <;> rcases hx0 with rfl | rfl <;> rcases hy0 with rfl | rfl <;> first | exact Or.inl (by decide) | exact Or.inr (by decide)
theorem TestR.nt {A : List (Nat × Nat)} (ha : TestR A) : TestR (A ++ [(11, 0)]) := by
  intro w l
  obtain ⟨x, hx0, hx⟩ := ha w l
  refine ⟨1 - x, ?_, ?_⟩
  · rcases hx0 with rfl | rfl
    · exact Or.inr (by decide)
    · exact Or.inl (by decide)
  · rw [evl_app, hx]
    rfl
def gp (L : List (Nat × Nat)) (k : Nat) : Nat × Nat := L.getD k (0, 0)
theorem gp_lt {L : List (Nat × Nat)} {x : Nat × Nat} {k : Nat} (h : k < L.length) : gp (L ++ [x]) k = gp L k := by
  unfold gp
  rw [List.getD_eq_getElem?_getD, List.getD_eq_getElem?_getD, List.getElem?_append_left h]
theorem gp_e {L : List (Nat × Nat)} {x : Nat × Nat} : gp (L ++ [x]) L.length = x := by
  unfold gp
  rw [List.getD_eq_getElem?_getD, List.getElem?_append_right (Nat.le_refl _), Nat.sub_self]
  rfl
/-- the class's code at A is this list; the reference's text t is -/
def CDL (ds : AS) (A : Nat) (L : List (Nat × Nat)) : Prop := gi ds A 3 = nI L.length ∧ L.length ≤ 400 ∧ ∀ k, k < L.length → gi ds (A + 1) k = nI (gp L k).1 ∧ gi ds (A + 2) k = nI (gp L k).2
def CRL (rs : AS) (q t : Nat) (L : List (Nat × Nat)) : Prop := gi rs (q + 4) t = nI L.length ∧ L.length ≤ 400 ∧ ∀ k, k < L.length → gi rs (q + 3) (400 * t + k) = nI ((gp L k).1 + 16 * (gp L k).2)
def cdW (A p j : Nat) : Prop := p = A ∧ j = 3 ∨ p = A + 1 ∨ p = A + 2
def cqW (q t p j : Nat) : Prop := p = q + 3 ∧ 400 * t ≤ j ∧ j < 400 * t + 400 ∨ p = q + 4 ∧ j = t
theorem CDL.of {ds ds' : AS} {A : Nat} {L : List (Nat × Nat)} {W : Nat → Nat → Prop} (h : CDL ds A L) (hw : Same W ds ds') (h0 : ¬ W A 3) (h1 : ∀ j, ¬ W (A + 1) j) (h2 : ∀ j, ¬ W (A + 2) j) : CDL ds' A L :=
  ⟨by rw [(hw A 3 h0).1]; exact h.1, h.2.1, fun k hk => by rw [(hw _ k (h1 k)).1, (hw _ k (h2 k)).1]; exact h.2.2 k hk⟩
theorem CRL.of {rs rs' : AS} {q t : Nat} {L : List (Nat × Nat)} {W : Nat → Nat → Prop} (h : CRL rs q t L) (hw : Same W rs rs') (h0 : ¬ W (q + 4) t) (h1 : ∀ j, ¬ W (q + 3) j) : CRL rs' q t L :=
  ⟨by rw [(hw _ t h0).1]; exact h.1, h.2.1, fun k hk => by rw [(hw _ _ (h1 _)).1]; exact h.2.2 k hk⟩
section Add
variable {κ : Ko}
theorem d_add_same (ds : AS) (A : Nat) (x y : Int32) : Same (cdW A) ds (f_Cd_add κ A x y ds) := by
  unfold f_Cd_add
  exact (((Same.rf _ ds).gput (fun j => Or.inr (Or.inl rfl))).gput (fun j => Or.inr (Or.inr rfl))).ui (Or.inl ⟨rfl, rfl⟩)
theorem d_add {ds : AS} {A : Nat} {L : List (Nat × Nat)} (h : CDL ds A L) (hl : L.length < 400) (x : Nat × Nat) {y z : Int32} (hy : y = nI x.1) (hz : z = nI x.2) : CDL (f_Cd_add κ A y z ds) A (L ++ [x]) := by
  unfold f_Cd_add
  have e1 : gput ds (A + 1) 400 (gi ds A 3) y = ui ds (A + 1) L.length y := gput_n h.1 hl (by decide)
  have e2 : gi (ui ds (A + 1) L.length y) A 3 = nI L.length := by rw [gi_ui, if_neg (fun z => by omega)]; exact h.1
  rw [e1, e2, gput_n rfl hl (by decide)]
  have e3 : gi (ui (ui ds (A + 1) L.length y) (A + 2) L.length z) A 3 = nI L.length := by rw [gi_ui, if_neg (fun z => by omega)]; exact e2
  rw [e3, nI_1]
  refine ⟨?_, by rw [List.length_append]; simp; omega, ?_⟩
  · rw [gi_ui, if_pos ⟨rfl, rfl⟩, List.length_append]; rfl
  · intro k hk
    rw [List.length_append] at hk
    simp only [List.length_cons, List.length_nil] at hk
    rw [gi_ui, if_neg (show ¬ (A + 1 = A ∧ k = 3) from fun z => by omega), gi_ui, if_neg (show ¬ (A + 1 = A + 2 ∧ k = L.length) from fun z => by omega), gi_ui]
    rw [gi_ui, if_neg (show ¬ (A + 2 = A ∧ k = 3) from fun z => by omega), gi_ui]
    by_cases e : k = L.length
    · subst e
      rw [if_pos (show A + 1 = A + 1 ∧ L.length = L.length from ⟨rfl, rfl⟩), if_pos (show A + 2 = A + 2 ∧ L.length = L.length from ⟨rfl, rfl⟩), gp_e, hy, hz]
      exact ⟨rfl, rfl⟩
    · rw [if_neg (show ¬ (A + 1 = A + 1 ∧ k = L.length) from fun z => e z.2), if_neg (show ¬ (A + 2 = A + 2 ∧ k = L.length) from fun z => e z.2), gi_ui, if_neg (show ¬ (A + 2 = A + 1 ∧ k = L.length) from fun z => by omega), gp_lt (by omega)]
      exact h.2.2 k (by omega)
theorem r_puts {rs : AS} {q t : Nat} {L : List (Nat × Nat)} (ht : gi rs q 14 = nI t) (ht2 : t < 18) (h : CRL rs q t L) (hl : L.length < 400) (x : Nat × Nat) {y z : Int32} (hy : y = nI x.1) (hz : z = nI x.2) : ∃ rs', f_R_puts κ q y z rs = some rs' ∧ CRL rs' q t (L ++ [x]) ∧ Same (cqW q t) rs rs' := by
  unfold f_R_puts
  rw [ht, nI_clamp (show t < 2 ^ 31 by omega), h.1, grd_t (vp_in_nI ht2 (by decide)), show (400 : Int32) = nI 400 from rfl, nI_mul, nI_add, grd_t (vp_in_nI (by omega) (by decide)), nI_clamp (by omega)]
  have e1 : ∀ v, gi (ui rs (q + 3) (400 * t + L.length) v) q 14 = nI t := fun v => by rw [gi_ui, if_neg (fun z => by omega)]; exact ht
  have e2 : ∀ v, gi (ui rs (q + 3) (400 * t + L.length) v) (q + 4) t = nI L.length := fun v => by rw [gi_ui, if_neg (fun z => by omega)]; exact h.1
  rw [e1, nI_clamp (by omega), e2, grd_t (vp_in_nI ht2 (by decide)), grd_t (vp_in_nI ht2 (by decide)), nI_1, hy, hz, show (16 : Int32) = nI 16 from rfl, nI_mul, nI_add]
  refine ⟨_, rfl, ⟨?_, by rw [List.length_append]; simp; omega, ?_⟩, ((Same.rf _ rs).ui (Or.inl ⟨rfl, by omega, by omega⟩)).ui (Or.inr ⟨rfl, rfl⟩)⟩
  · rw [gi_ui, if_pos ⟨rfl, rfl⟩, List.length_append]; rfl
  · intro k hk
    rw [List.length_append] at hk
    simp only [List.length_cons, List.length_nil] at hk
    rw [gi_ui, if_neg (fun z => by omega), gi_ui]
    by_cases e : k = L.length
    · subst e
      rw [if_pos ⟨rfl, rfl⟩, gp_e]
    · rw [if_neg (fun z => by omega), gp_lt (by omega)]
      exact h.2.2 k (by omega)
end Add
/-- the readers' fixed surroundings -/
def PC (κ : Ko) (a ta A t iw : Nat) : Prop := ta < a ∧ a + 5 < A ∧ ly κ A = (0, 4) ∧ (t < 6 ∧ iw = 0 ∨ 12 ≤ t ∧ t < 18 ∧ iw = 9)
/-- the class's reader with its code and its words -/
def DR (κ : Ko) (ds : AS) (a ta A iw n : Nat) (T : Nat → Nat) (p : Nat) (f m : Int32) : Prop := RS κ ds a ta n T p f m ∧ gr ds a 5 = some A ∧ gr ds a 6 = some (kK (kt κ) iw)
/-- the reference's reader -/
def RR_ (rs : AS) (q t n : Nat) (T : Nat → Nat) (p : Nat) (m : Int32) (L : List (Nat × Nat)) : Prop := RQ rs q n T p 0 m ∧ gi rs q 14 = nI t ∧ CRL rs q t L
def pdW (a A p j : Nat) : Prop := rdW a p j ∨ cdW A p j
def pqW (q t p j : Nat) : Prop := p = q ∧ 11 ≤ j ∧ j ≤ 15 ∨ cqW q t p j
theorem DR.of {κ : Ko} {ds ds' : AS} {a ta A iw n p p' : Nat} {T : Nat → Nat} {f m f' m' : Int32} (h : DR κ ds a ta A iw n T p f m) (hr : RS κ ds' a ta n T p' f' m') (hw : Same (rdW a) ds ds') : DR κ ds' a ta A iw n T p' f' m' :=
  ⟨hr, by rw [(hw a 5 (fun z => by unfold rdW at z; omega)).2.2]; exact h.2.1, by rw [(hw a 6 (fun z => by unfold rdW at z; omega)).2.2]; exact h.2.2⟩
theorem DR.cd {κ : Ko} {ds ds' : AS} {a ta A t iw n p : Nat} {T : Nat → Nat} {f m : Int32} (hc : PC κ a ta A t iw) (h : DR κ ds a ta A iw n T p f m) (hw : Same (cdW A) ds ds') : DR κ ds' a ta A iw n T p f m := by
  have h0 := hc.1
  have h1 := hc.2.1
  have na : ∀ j, ¬ cdW A a j := fun j z => by unfold cdW at z; omega
  have nt : ∀ j, ¬ cdW A ta j := fun j z => by unfold cdW at z; omega
  refine ⟨⟨⟨by rw [(hw a 0 (na _)).2.2]; exact h.1.1.1, h.1.1.2.1, h.1.1.2.2.1, by rw [(hw a 1 (na _)).1]; exact h.1.1.2.2.2.1, fun k hk => by rw [(hw ta k (nt _)).1]; exact h.1.1.2.2.2.2.1 k hk, h.1.1.2.2.2.2.2⟩, by rw [(hw a 2 (na _)).1]; exact h.1.2.1, h.1.2.2.1, by rw [(hw a 3 (na _)).1]; exact h.1.2.2.2.1, by rw [(hw a 4 (na _)).1]; exact h.1.2.2.2.2⟩, by rw [(hw a 5 (na _)).2.2]; exact h.2.1, by rw [(hw a 6 (na _)).2.2]; exact h.2.2⟩
theorem CDL.rd {κ : Ko} {ds ds' : AS} {a ta A t iw : Nat} {L : List (Nat × Nat)} (hc : PC κ a ta A t iw) (h : CDL ds A L) (hw : Same (rdW a) ds ds') : CDL ds' A L := by
  have h1 := hc.2.1
  exact h.of hw (fun z => by unfold rdW at z; omega) (fun j z => by unfold rdW at z; omega) (fun j z => by unfold rdW at z; omega)
theorem RR_.of {rs rs' : AS} {q t n p p' : Nat} {T : Nat → Nat} {m m' : Int32} {L : List (Nat × Nat)} (h : RR_ rs q t n T p m L) (hr : RQ rs' q n T p' 0 m') (hw : Same (rqW q) rs rs') : RR_ rs' q t n T p' m' L :=
  ⟨hr, by rw [(hw q 14 (fun z => by unfold rqW at z; omega)).1]; exact h.2.1, h.2.2.of hw (fun z => by unfold rqW at z; omega) (fun j z => by unfold rqW at z; omega)⟩
theorem RR_.cd {κ : Ko} {a ta A iw : Nat} {rs rs' : AS} {q t n p : Nat} {T : Nat → Nat} {m : Int32} {L L' : List (Nat × Nat)} (hc : PC κ a ta A t iw) (h : RR_ rs q t n T p m L) (hl : CRL rs' q t L') (hw : Same (cqW q t) rs rs') : RR_ rs' q t n T p m L' := by
  have nq : ∀ j, ¬ cqW q t q j := fun j z => by unfold cqW at z; omega
  have n1 : ∀ j, ¬ cqW q t (q + 1) j := fun j z => by unfold cqW at z; omega
  exact ⟨⟨⟨by rw [(hw q 1 (nq _)).1]; exact h.1.1.1, h.1.1.2.1, fun k hk => by rw [(hw (q + 1) k (n1 _)).1]; exact h.1.1.2.2 k hk⟩, by rw [(hw q 11 (nq _)).1]; exact h.1.2.1, h.1.2.2.1, by rw [(hw q 12 (nq _)).1]; exact h.1.2.2.2.1, by rw [(hw q 15 (nq _)).1]; exact h.1.2.2.2.2⟩, by rw [(hw q 14 (nq _)).1]; exact h.2.1, hl⟩
theorem rd_pd {a A : Nat} {s1 s2 : AS} (h : Same (rdW a) s1 s2) : Same (pdW a A) s1 s2 := h.mono (fun _ _ z => Or.inl z)
theorem cd_pd {a A : Nat} {s1 s2 : AS} (h : Same (cdW A) s1 s2) : Same (pdW a A) s1 s2 := h.mono (fun _ _ z => Or.inr z)
theorem rq_pq {q t : Nat} {s1 s2 : AS} (h : Same (rqW q) s1 s2) : Same (pqW q t) s1 s2 := h.mono (fun _ _ z => Or.inl ⟨z.1, z.2.1, by have := z.2.2; omega⟩)
theorem cq_pq {q t : Nat} {s1 s2 : AS} (h : Same (cqW q t) s1 s2) : Same (pqW q t) s1 s2 := h.mono (fun _ _ z => Or.inr z)
/-- the class's reader after a fault -/
def FS (κ : Ko) (ds : AS) (a ta A iw n : Nat) (T : Nat → Nat) (F : Nat) : Prop := (0 < F ∧ F < 4000) ∧ ∃ p m, DR κ ds a ta A iw n T p (nI F) m
theorem FS.mk {κ : Ko} {ds : AS} {a ta A iw n p F : Nat} {T : Nat → Nat} {m : Int32} (h0 : 0 < F) (h1 : F < 4000) (h : DR κ ds a ta A iw n T p (nI F) m) : FS κ ds a ta A iw n T F := ⟨⟨h0, h1⟩, p, m, h⟩
theorem nfl_lt {T : Nat → Nat} {n p lo hi : Nat} (hn : n ≤ 400) (hp : p ≤ n) : nfl T n p lo hi < 4000 := by
  have := skp_lo (T := T) hp
  unfold nfl
  split
  · omega
  · split
    · omega
    · omega
/-- how many values are in a code -/
def vcn : List (Nat × Nat) → Nat
  | [] => 0
  | x :: l => (if x.1 < 2 then 1 else 0) + vcn l
theorem vcn_app : ∀ (A B : List (Nat × Nat)), vcn (A ++ B) = vcn A + vcn B
  | [], B => by rw [List.nil_append, vcn]; omega
  | x :: A, B => by rw [List.cons_append, vcn, vcn, vcn_app A B]; omega
/-- both readers side by side -/
def PS (κ : Ko) (ds rs : AS) (a ta A iw q t n : Nat) (T : Nat → Nat) (pd pr : Nat) (Ld Lr : List (Nat × Nat)) (m : Nat) : Prop :=
  (DR κ ds a ta A iw n T pd 0 (nI m) ∧ CDL ds A Ld) ∧ RR_ rs q t n T pr (nI m) Lr ∧ skp T n pd = skp T n pr ∧ m ≤ 60 ∧ (∀ x, x ∈ Ld → x.1 < 14 ∧ x.2 < 100000) ∧ vcn Ld ≤ m
