/-! corners: the marks of a point, both ways -/
def bcp (x0 : Int32) : Int32 := ((((((((x0 - ((((x0 : Int32).toUInt32 >>> ((1 : Int32).toUInt32 &&& Int32.toUInt32 31)).toInt32) &&& 1431655765)) &&& 858993459) + (((((x0 - ((((x0 : Int32).toUInt32 >>> ((1 : Int32).toUInt32 &&& Int32.toUInt32 31)).toInt32) &&& 1431655765)) : Int32).toUInt32 >>> ((2 : Int32).toUInt32 &&& Int32.toUInt32 31)).toInt32) &&& 858993459)) + ((((((x0 - ((((x0 : Int32).toUInt32 >>> ((1 : Int32).toUInt32 &&& Int32.toUInt32 31)).toInt32) &&& 1431655765)) &&& 858993459) + (((((x0 - ((((x0 : Int32).toUInt32 >>> ((1 : Int32).toUInt32 &&& Int32.toUInt32 31)).toInt32) &&& 1431655765)) : Int32).toUInt32 >>> ((2 : Int32).toUInt32 &&& Int32.toUInt32 31)).toInt32) &&& 858993459)) : Int32).toUInt32 >>> ((4 : Int32).toUInt32 &&& Int32.toUInt32 31)).toInt32)) &&& 252645135) + ((((((((x0 - ((((x0 : Int32).toUInt32 >>> ((1 : Int32).toUInt32 &&& Int32.toUInt32 31)).toInt32) &&& 1431655765)) &&& 858993459) + (((((x0 - ((((x0 : Int32).toUInt32 >>> ((1 : Int32).toUInt32 &&& Int32.toUInt32 31)).toInt32) &&& 1431655765)) : Int32).toUInt32 >>> ((2 : Int32).toUInt32 &&& Int32.toUInt32 31)).toInt32) &&& 858993459)) + ((((((x0 - ((((x0 : Int32).toUInt32 >>> ((1 : Int32).toUInt32 &&& Int32.toUInt32 31)).toInt32) &&& 1431655765)) &&& 858993459) + (((((x0 - ((((x0 : Int32).toUInt32 >>> ((1 : Int32).toUInt32 &&& Int32.toUInt32 31)).toInt32) &&& 1431655765)) : Int32).toUInt32 >>> ((2 : Int32).toUInt32 &&& Int32.toUInt32 31)).toInt32) &&& 858993459)) : Int32).toUInt32 >>> ((4 : Int32).toUInt32 &&& Int32.toUInt32 31)).toInt32)) &&& 252645135) : Int32).toUInt32 >>> ((8 : Int32).toUInt32 &&& Int32.toUInt32 31)).toInt32)) + (((((((((x0 - ((((x0 : Int32).toUInt32 >>> ((1 : Int32).toUInt32 &&& Int32.toUInt32 31)).toInt32) &&& 1431655765)) &&& 858993459) + (((((x0 - ((((x0 : Int32).toUInt32 >>> ((1 : Int32).toUInt32 &&& Int32.toUInt32 31)).toInt32) &&& 1431655765)) : Int32).toUInt32 >>> ((2 : Int32).toUInt32 &&& Int32.toUInt32 31)).toInt32) &&& 858993459)) + ((((((x0 - ((((x0 : Int32).toUInt32 >>> ((1 : Int32).toUInt32 &&& Int32.toUInt32 31)).toInt32) &&& 1431655765)) &&& 858993459) + (((((x0 - ((((x0 : Int32).toUInt32 >>> ((1 : Int32).toUInt32 &&& Int32.toUInt32 31)).toInt32) &&& 1431655765)) : Int32).toUInt32 >>> ((2 : Int32).toUInt32 &&& Int32.toUInt32 31)).toInt32) &&& 858993459)) : Int32).toUInt32 >>> ((4 : Int32).toUInt32 &&& Int32.toUInt32 31)).toInt32)) &&& 252645135) + ((((((((x0 - ((((x0 : Int32).toUInt32 >>> ((1 : Int32).toUInt32 &&& Int32.toUInt32 31)).toInt32) &&& 1431655765)) &&& 858993459) + (((((x0 - ((((x0 : Int32).toUInt32 >>> ((1 : Int32).toUInt32 &&& Int32.toUInt32 31)).toInt32) &&& 1431655765)) : Int32).toUInt32 >>> ((2 : Int32).toUInt32 &&& Int32.toUInt32 31)).toInt32) &&& 858993459)) + ((((((x0 - ((((x0 : Int32).toUInt32 >>> ((1 : Int32).toUInt32 &&& Int32.toUInt32 31)).toInt32) &&& 1431655765)) &&& 858993459) + (((((x0 - ((((x0 : Int32).toUInt32 >>> ((1 : Int32).toUInt32 &&& Int32.toUInt32 31)).toInt32) &&& 1431655765)) : Int32).toUInt32 >>> ((2 : Int32).toUInt32 &&& Int32.toUInt32 31)).toInt32) &&& 858993459)) : Int32).toUInt32 >>> ((4 : Int32).toUInt32 &&& Int32.toUInt32 31)).toInt32)) &&& 252645135) : Int32).toUInt32 >>> ((8 : Int32).toUInt32 &&& Int32.toUInt32 31)).toInt32)) : Int32).toUInt32 >>> ((16 : Int32).toUInt32 &&& Int32.toUInt32 31)).toInt32)) &&& 63)
theorem bcp_e (κ : Ko) (x : Int32) (st : AS) : f_Ji_bitCount κ x st = bcp x := rfl
def armN (m : Nat) : Nat := m % 2 + m / 2 % 2 + m / 4 % 2 + m / 8 % 2
/-- a corner, by the class's marks -/
def cC (m : Nat) : Bool := m / 16 % 2 == 1 || (m % 4 != 0 && m / 4 % 4 != 0)
def flt (m : Nat) : Bool := m % 16 == 15 || m % 16 == 3 || m % 16 == 12
def okM (m : Nat) : Bool := m / 16 % 2 == 1 || ((m / 32 % 2 == 1) == (m % 4 != 0) && (m / 64 % 2 == 1) == (m / 4 % 4 != 0))
theorem cp_facts : ∀ m, m < 32 → (bcp (nI m &&& 15) = nI (armN m) ∧ armN m < 5 ∧ (nI m &&& 3 = 0 ↔ m % 4 = 0) ∧ (nI m &&& 12 = 0 ↔ m / 4 % 4 = 0) ∧ (nI m &&& 16 = 0 ↔ m / 16 % 2 = 0) ∧ (nI m &&& 15 = 3 ↔ m % 16 = 3) ∧ (nI m &&& 15 = 12 ↔ m % 16 = 12) ∧ (nI (armN m) = 4 ↔ m % 16 = 15)) := by decide +kernel
theorem rp_facts : ∀ m, m < 128 → okM m = true → ((if (nI m &&& 16) = 0 then (if (nI m &&& 96) = 96 then 1 else 0) else 1 : Int32) = if cC (m % 32) = true then 1 else 0) := by decide +kernel
theorem rp_arms : ∀ m, m < 128 → ((((nI m &&& 1) + ((nI m >>> ((1 : Int32) &&& 31)) &&& 1)) + ((nI m >>> ((2 : Int32) &&& 31)) &&& 1)) + ((nI m >>> ((3 : Int32) &&& 31)) &&& 1) : Int32) = nI (armN (m % 32)) ∧ ((nI m &&& 15 = 15 ∨ nI m &&& 15 = 3 ∨ nI m &&& 15 = 12) ↔ flt (m % 32) = true) := by decide +kernel
theorem step_facts : ∀ m, m < 128 → okM m = true → ∀ k, k ∈ [50, 49, 35, 88, 84, 76] → (m ||| k) < 128 ∧ okM (m ||| k) = true ∧ nI m ||| nI k = nI (m ||| k) ∧ nI (m % 32) ||| nI (k % 32) = nI ((m ||| k) % 32) := by decide +kernel
theorem lor_ne : ∀ m, m < 128 → ∀ k, k ∈ [50, 49, 35, 88, 84, 76] → (m ||| k) % 32 ≠ 0 := by decide +kernel
/-- the mark that a ridge leaves -/
def mkN (w : Nat) (b e : Bool) : Nat := if w = 0 then (if b then 50 else if e then 49 else 35) else (if b then 88 else if e then 84 else 76)
theorem mkN_in (w : Nat) (b e : Bool) : mkN w b e ∈ [50, 49, 35, 88, 84, 76] := by
  unfold mkN
  by_cases h : w = 0
  · rw [if_pos h]; cases b <;> cases e <;> decide
  · rw [if_neg h]; cases b <;> cases e <;> decide
section CountP
variable {κ : Ko} {dt : AS} {a : Nat}
def cpS (st : AS) (a m : Nat) : AS := ui (gput (ui st a 2 ((gi st a 2) + 1)) (a + 2) 5 (nI (armN m)) ((gat (gi (ui st a 2 ((gi st a 2) + 1)) (a + 2)) 5 (nI (armN m))) + 1)) a 3 (if gi st a 3 = 0 then 0 else if flt m = true then 1 else 0)
theorem countP {m : Nat} (hm : m < 32) : f_Cn_countPoint κ a (nI m) dt = if cC m = true then cpS dt a m else dt := by
  obtain ⟨h1, h2, h3, h4, h5, h6, h7, h8⟩ := cp_facts m hm
  unfold f_Cn_countPoint
  rw [bcp_e, h1]
  have z10 : ¬ (1 : Int32) = 0 := by decide
  simp only [jn_e, h3, h4, h5, h6, h7, h8, if_true, eq_false z10, if_false]
  have e3 : gi (gput (ui dt a 2 ((gi dt a 2) + 1)) (a + 2) 5 (nI (armN m)) ((gat (gi (ui dt a 2 ((gi dt a 2) + 1)) (a + 2)) 5 (nI (armN m))) + 1)) a 3 = gi dt a 3 := by
    rw [gput_n (j := armN m) rfl (by omega) (by decide), gi_ui, if_neg (by omega), gi_ui, if_neg (by omega)]
  rw [e3]
  have body : (if gi dt a 3 = 0 then ui (gput (ui dt a 2 ((gi dt a 2) + 1)) (a + 2) 5 (nI (armN m)) ((gat (gi (ui dt a 2 ((gi dt a 2) + 1)) (a + 2)) 5 (nI (armN m))) + 1)) a 3 0 else if m % 16 = 15 then ui (gput (ui dt a 2 ((gi dt a 2) + 1)) (a + 2) 5 (nI (armN m)) ((gat (gi (ui dt a 2 ((gi dt a 2) + 1)) (a + 2)) 5 (nI (armN m))) + 1)) a 3 1 else if m % 16 = 3 then ui (gput (ui dt a 2 ((gi dt a 2) + 1)) (a + 2) 5 (nI (armN m)) ((gat (gi (ui dt a 2 ((gi dt a 2) + 1)) (a + 2)) 5 (nI (armN m))) + 1)) a 3 1 else if m % 16 = 12 then ui (gput (ui dt a 2 ((gi dt a 2) + 1)) (a + 2) 5 (nI (armN m)) ((gat (gi (ui dt a 2 ((gi dt a 2) + 1)) (a + 2)) 5 (nI (armN m))) + 1)) a 3 1 else ui (gput (ui dt a 2 ((gi dt a 2) + 1)) (a + 2) 5 (nI (armN m)) ((gat (gi (ui dt a 2 ((gi dt a 2) + 1)) (a + 2)) 5 (nI (armN m))) + 1)) a 3 0) = cpS dt a m := by
    unfold cpS
    by_cases z : gi dt a 3 = 0
    · rw [if_pos z, if_pos z]
    · rw [if_neg z, if_neg z]
      have ef : (flt m = true) ↔ (m % 16 = 15 ∨ m % 16 = 3 ∨ m % 16 = 12) := by
        unfold flt
        simp only [Bool.or_eq_true, beq_iff_eq, or_assoc]
      by_cases f1 : m % 16 = 15
      · rw [if_pos f1, if_pos (ef.mpr (Or.inl f1))]
      · rw [if_neg f1]
        by_cases f2 : m % 16 = 3
        · rw [if_pos f2, if_pos (ef.mpr (Or.inr (Or.inl f2)))]
        · rw [if_neg f2]
          by_cases f3 : m % 16 = 12
          · rw [if_pos f3, if_pos (ef.mpr (Or.inr (Or.inr f3)))]
          · rw [if_neg f3, if_neg (fun y => (ef.mp y).elim f1 (fun y => y.elim f2 f3))]
  rw [body]
  have ec : (cC m = true) ↔ (m / 16 % 2 = 1 ∨ (m % 4 ≠ 0 ∧ m / 4 % 4 ≠ 0)) := by
    unfold cC
    simp only [Bool.or_eq_true, beq_iff_eq, Bool.and_eq_true, bne_iff_ne]
  by_cases g1 : m / 16 % 2 = 0
  · by_cases g2 : m % 4 = 0
    · have hc : ¬ cC m = true := fun y => by have := ec.mp y; omega
      rw [if_neg hc, if_pos g2, if_pos g1]
    · by_cases g3 : m / 4 % 4 = 0
      · have hc : ¬ cC m = true := fun y => by have := ec.mp y; omega
        rw [if_neg hc, if_neg g2, if_pos g3, if_pos g1]
      · rw [if_pos (ec.mpr (Or.inr ⟨g2, g3⟩)), if_neg g2, if_neg g3, ite_self]
  · rw [if_pos (ec.mpr (Or.inl (by omega)))]
    by_cases g2 : m % 4 = 0
    · rw [if_pos g2, if_neg g1]
    · by_cases g3 : m / 4 % 4 = 0
      · rw [if_neg g2, if_pos g3, if_neg g1]
      · rw [if_neg g2, if_neg g3, ite_self]
end CountP
/-! counting over the grid -/
def sumF (f : Nat → Nat) : Nat → Nat
  | 0 => 0
  | n + 1 => sumF f n + f n
theorem sumF_congr {f g : Nat → Nat} : ∀ {n : Nat}, (∀ i, i < n → f i = g i) → sumF f n = sumF g n
  | 0, _ => rfl
  | n + 1, h => by rw [sumF, sumF, sumF_congr (fun i hi => h i (by omega)), h n (by omega)]
theorem sumF_upd {f g : Nat → Nat} {y d : Nat} : ∀ {n : Nat}, y < n → (∀ i, i < n → i ≠ y → f i = g i) → f y + d = g y → sumF f n + d = sumF g n
  | 0, h, _, _ => absurd h (Nat.not_lt_zero _)
  | n + 1, h, h1, h2 => by
    rw [sumF, sumF]
    by_cases e : y = n
    · subst e
      rw [sumF_congr (f := f) (g := g) (fun i hi => h1 i (by omega) (by omega))]
      omega
    · have := sumF_upd (n := n) (by omega) (fun i hi hne => h1 i (by omega) hne) h2
      rw [h1 n (by omega) (by omega)]
      omega
theorem cnt_sum (P : Nat → Bool) : ∀ n, cnt P n = sumF (fun i => if P i = true then 1 else 0) n
  | 0 => rfl
  | n + 1 => by rw [cnt_s, cnt_sum P n, sumF]
/-- how many points inside are so -/
def totG (P : Nat → Bool) (N : Nat → Nat) (W H : Nat) : Nat := sumF (fun y => cnt (fun x => P (N (201 * (y + 1) + (x + 1)))) (W - 1)) (H - 1)
def updN (N : Nat → Nat) (p v : Nat) : Nat → Nat := fun k => if k = p then v else N k
theorem updN_ne {N : Nat → Nat} {p v k : Nat} (h : k ≠ p) : updN N p v k = N k := if_neg h
theorem updN_eq {N : Nat → Nat} {p v : Nat} : updN N p v p = v := if_pos rfl
theorem totG_out {P : Nat → Bool} {N : Nat → Nat} {W H p v : Nat} (h : ∀ x y, x < W - 1 → y < H - 1 → 201 * (y + 1) + (x + 1) ≠ p) : totG P (updN N p v) W H = totG P N W H := by
  unfold totG
  refine sumF_congr (fun y hy => cnt_congr (fun x hx => ?_))
  rw [updN_ne (h x y hx hy)]
theorem totG_in {P : Nat → Bool} {N : Nat → Nat} {W H x0 y0 : Nat} (hx : x0 < W - 1) (hy : y0 < H - 1) (hW : W ≤ 200) (h0 : P 0 = false) : totG P (updN N (201 * (y0 + 1) + (x0 + 1)) 0) W H + (if P (N (201 * (y0 + 1) + (x0 + 1))) = true then 1 else 0) = totG P N W H := by
  unfold totG
  refine sumF_upd (y := y0) hy (fun y hy' hne => cnt_congr (fun x hx' => ?_)) ?_
  · rw [updN_ne (by omega)]
  · rw [cnt_sum, cnt_sum]
    refine sumF_upd (y := x0) hx (fun x hx' hne => ?_) ?_
    · rw [updN_ne (by omega)]
    · rw [updN_eq, h0, if_neg (show ¬ false = true by decide), Nat.zero_add]
theorem totG_zero {P : Nat → Bool} {N : Nat → Nat} {W H : Nat} (hN : ∀ x y, x < W - 1 → y < H - 1 → N (201 * (y + 1) + (x + 1)) = 0) (h0 : P 0 = false) : totG P N W H = 0 := by
  unfold totG
  have c0 : ∀ n, cnt (fun _ => false) n = 0 := fun n => by
    induction n with
    | zero => rfl
    | succ n ih => rw [cnt_s, ih]; rfl
  have s0 : ∀ n, sumF (fun _ => 0) n = 0 := fun n => by
    induction n with
    | zero => rfl
    | succ n ih => rw [sumF, ih]
  rw [sumF_congr (g := fun _ => 0) (fun y hy => by rw [cnt_congr (Q := fun _ => false) (fun x hx => by rw [hN x y hx hy, h0]), c0]), s0]
