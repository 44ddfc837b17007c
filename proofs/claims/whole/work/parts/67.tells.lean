/-! what a told law tells, both classes -/
def csL (L : List (Nat × Nat)) (k : Nat) : Nat := (gp L k).1
def cvL (L : List (Nat × Nat)) (k : Nat) : Nat := (gp L k).2
theorem gp_mid (X R Y : List (Nat × Nat)) (x : Nat × Nat) : gp (X ++ (x :: R) ++ Y) X.length = x := by
  unfold gp
  rw [List.append_assoc, List.getD_eq_getElem?_getD, List.getElem?_append_right (Nat.le_refl _), Nat.sub_self]
  rfl
theorem seg (w : Nat → Int64) : ∀ (R X Y : List (Nat × Nat)) (l : List Int64), cev (csL (X ++ R ++ Y)) (cvL (X ++ R ++ Y)) w R.length X.length l = evl w R l
  | [], X, Y, l => rfl
  | x :: R, X, Y, l => by
    have e : X ++ (x :: R) ++ Y = (X ++ [x]) ++ R ++ Y := by simp only [List.append_assoc, List.singleton_append, List.cons_append, List.nil_append]
    have g1 : csL (X ++ (x :: R) ++ Y) X.length = x.1 := by unfold csL; rw [gp_mid]
    have g2 : cvL (X ++ (x :: R) ++ Y) X.length = x.2 := by unfold cvL; rw [gp_mid]
    rw [List.length_cons, cev, evl, g1, g2]
    cases cstp x.1 x.2 w l with
    | none => rfl
    | some l' =>
      have := seg w R (X ++ [x]) Y l'
      rw [← e, List.length_append, List.length_singleton] at this
      exact this
theorem segn : ∀ (R X Y : List (Nat × Nat)), nvl (csL (X ++ R ++ Y)) R.length X.length = vcn R
  | [], X, Y => rfl
  | x :: R, X, Y => by
    have e : X ++ (x :: R) ++ Y = (X ++ [x]) ++ R ++ Y := by simp only [List.append_assoc, List.singleton_append, List.cons_append, List.nil_append]
    have g1 : csL (X ++ (x :: R) ++ Y) X.length = x.1 := by unfold csL; rw [gp_mid]
    have := segn R (X ++ [x]) Y
    rw [← e, List.length_append, List.length_singleton] at this
    rw [List.length_cons, nvl, vcn, g1, this]
/-- the value of a piece of a code -/
def evv (w : Nat → Int64) (R : List (Nat × Nat)) : Int64 := match evl w R [] with | some (r :: _) => r | _ => 0
def sg (L : List (Nat × Nat)) (i j : Nat) : List (Nat × Nat) := (L.drop i).take (j - i)
theorem sg_mid (X R Y : List (Nat × Nat)) : sg (X ++ R ++ Y) X.length (X.length + R.length) = R := by
  unfold sg
  rw [List.append_assoc, List.drop_left, Nat.add_sub_cancel_left, List.take_left]
theorem SumR.ev {R : List (Nat × Nat)} (h : SumR R) (w : Nat → Int64) : evl w R [] = some [evv w R] := by
  obtain ⟨r, e⟩ := h w []
  unfold evv
  rw [e]
theorem TestR.ev {R : List (Nat × Nat)} (h : TestR R) (w : Nat → Int64) : evl w R [] = some [evv w R] ∧ (evv w R = 0 ∨ evv w R = 1) := by
  obtain ⟨r, e0, e⟩ := h w []
  unfold evv
  rw [e]
  exact ⟨rfl, e0⟩
def typd (L : List (Nat × Nat)) : Prop := (∀ x, x ∈ L → x.1 < 14 ∧ x.2 < 100000) ∧ vcn L ≤ 60
section Reg
variable {κ : Ko} {L X R Y : List (Nat × Nat)} {w : Nat → Int64}
theorem gp_in (hk : typd L) {k : Nat} : csL L k < 14 ∧ cvL L k < 100000 := by
  unfold csL cvL gp
  by_cases h : k < L.length
  · rw [List.getD_eq_getElem?_getD, List.getElem?_eq_getElem h]
    exact hk.1 _ (List.getElem_mem h)
  · rw [List.getD_eq_getElem?_getD, List.getElem?_eq_none (by omega)]
    exact ⟨by decide, by decide⟩
theorem d_reg {ds : AS} {A a3 : Nat} {r : Int64} (hC : CDL ds A L) (hk : typd L) (hL : L = X ++ R ++ Y) (ha : a3 ≠ A + 3) (hw : ∀ v, v < 8 → gl ds a3 v = w v) (he : evl w R [] = some [r]) : ∃ ds', f_Cd_valueOf κ A (nI X.length) (nI (X.length + R.length)) a3 8 ds = some (r, ds') ∧ Same (fun p _ => p = A + 3) ds ds' := by
  have hlen : X.length + R.length ≤ L.length := by rw [hL]; simp only [List.length_append]; omega
  have hv : vcn R ≤ 60 := by have := hk.2; rw [hL, vcn_app, vcn_app] at this; omega
  have h400 := hC.2.1
  refine d_value (cs := csL L) (cv := cvL L) (w := w) (by omega) (by omega) ha (fun i _ => gp_in hk) (fun k hk' => hC.2.2 k (by omega)) hw ?_ ?_
  · rw [Nat.add_sub_cancel_left, hL, segn]; omega
  · rw [Nat.add_sub_cancel_left, hL, seg]; exact he
theorem r_reg {rs : AS} {q t : Nat} {r : Int64} (ht : t < 18) (hC : CRL rs q t L) (hk : typd L) (hL : L = X ++ R ++ Y) (hw : ∀ v, v < 8 → gl rs (q + 13) v = w v) (he : evl w R [] = some [r]) : ∃ rs', f_R_reckons κ q (nI t) (nI X.length) (nI (X.length + R.length)) rs = some (r, rs') ∧ Same (rkW q) rs rs' := by
  have hlen : X.length + R.length ≤ L.length := by rw [hL]; simp only [List.length_append]; omega
  have hv : vcn R ≤ 60 := by have := hk.2; rw [hL, vcn_app, vcn_app] at this; omega
  have h400 := hC.2.1
  refine r_value (cs := csL L) (cv := cvL L) (w := w) ht (by omega) (by omega) (fun i _ => gp_in hk) (fun k hk' => hC.2.2 k (by omega)) hw ?_ ?_
  · rw [Nat.add_sub_cancel_left, hL, segn]; omega
  · rw [Nat.add_sub_cancel_left, hL, seg]; exact he
/-- a law's clause: the sum and the test, both sides -/
theorem lawC.sum {c : c4} (h : lawC L c) (w : Nat → Int64) : ∃ X Y, L = X ++ sg L c.2.1 c.2.2.1 ++ Y ∧ c.2.1 = X.length ∧ c.2.2.1 = X.length + (sg L c.2.1 c.2.2.1).length ∧ evl w (sg L c.2.1 c.2.2.1) [] = some [evv w (sg L c.2.1 c.2.2.1)] := by
  obtain ⟨X, R, S, Y, hL, h1, h2, h3, h4, h5, h6⟩ := h
  have e : sg L c.2.1 c.2.2.1 = R := by rw [h1, h2, hL, show X ++ R ++ S ++ Y = X ++ R ++ (S ++ Y) by simp only [List.append_assoc], sg_mid]
  rw [e]
  exact ⟨X, S ++ Y, by rw [hL]; simp only [List.append_assoc], h1, h2, h5.ev w⟩
theorem lawC.test {c : c4} (h : lawC L c) (w : Nat → Int64) : ∃ X Y, L = X ++ sg L c.2.2.1 c.2.2.2 ++ Y ∧ c.2.2.1 = X.length ∧ c.2.2.2 = X.length + (sg L c.2.2.1 c.2.2.2).length ∧ (c.2.2.2 = c.2.2.1 ∨ evl w (sg L c.2.2.1 c.2.2.2) [] = some [evv w (sg L c.2.2.1 c.2.2.2)] ∧ (evv w (sg L c.2.2.1 c.2.2.2) = 0 ∨ evv w (sg L c.2.2.1 c.2.2.2) = 1)) := by
  obtain ⟨X, R, S, Y, hL, h1, h2, h3, h4, h5, h6⟩ := h
  have e : sg L c.2.2.1 c.2.2.2 = S := by rw [h2, h3, ← List.length_append, hL, sg_mid]
  rw [e]
  refine ⟨X ++ R, Y, hL, by rw [h2, List.length_append], by rw [h3, List.length_append], ?_⟩
  rcases h6 with rfl | h6
  · left
    rw [h2, h3]
    rfl
  · right
    exact h6.ev w
theorem lawC.le {c : c4} (h : lawC L c) : c.2.1 ≤ L.length ∧ c.2.2.1 ≤ L.length ∧ c.2.2.2 ≤ L.length ∧ c.1 < 2 := by
  obtain ⟨X, R, S, Y, hL, h1, h2, h3, h4, h5, h6⟩ := h
  have : L.length = X.length + R.length + S.length + Y.length := by rw [hL]; simp only [List.length_append]
  omega
end Reg
