/-! words: the class's lists, the reference's packed ones -/
/-- n signs packed -/
def pkv (F : Nat → Nat) : Nat → Nat
  | 0 => 0
  | k + 1 => pkv F k * 256 + F k
theorem pkv_lt {F : Nat → Nat} : ∀ k, (∀ j, j < k → F j < 128) → pkv F k < 256 ^ k
  | 0, _ => by rw [pkv]; decide
  | k + 1, h => by
    have h1 := pkv_lt k (fun j hj => h j (by omega))
    have h2 := h k (by omega)
    rw [pkv, Nat.pow_succ]
    omega
theorem pkv_inj {F G : Nat → Nat} : ∀ (k l : Nat), (∀ j, j < k → 0 < F j ∧ F j < 256) → (∀ j, j < l → 0 < G j ∧ G j < 256) → pkv F k = pkv G l → k = l ∧ ∀ j, j < k → F j = G j
  | 0, 0, _, _, _ => ⟨rfl, fun j hj => by omega⟩
  | 0, l + 1, _, h2, h => by
    have := h2 l (by omega)
    rw [pkv, pkv] at h
    omega
  | k + 1, 0, h1, _, h => by
    have := h1 k (by omega)
    rw [pkv, pkv] at h
    omega
  | k + 1, l + 1, h1, h2, h => by
    have a := h1 k (by omega)
    have b := h2 l (by omega)
    rw [pkv, pkv] at h
    obtain ⟨e, g⟩ := pkv_inj k l (fun j hj => h1 j (by omega)) (fun j hj => h2 j (by omega)) (by omega)
    refine ⟨by omega, fun j hj => ?_⟩
    by_cases e2 : j = k
    · subst e2; rw [show l = j from e.symm] at h b; omega
    · exact g j (by omega)
theorem lN_sh {x c : Nat} (hc : c < 256) : (lN x <<< ((8 : Int32).toInt64 &&& 63)) ||| lN c = lN (x * 256 + c) := by
  apply Int64.toBitVec_inj.mp
  rw [Int64.toBitVec_or, Int64.toBitVec_shiftLeft]
  show (BitVec.ofNat 64 x <<< (((8 : Int32).toInt64 &&& 63).toBitVec.smod 64)) ||| BitVec.ofNat 64 c = BitVec.ofNat 64 (x * 256 + c)
  rw [show ((8 : Int32).toInt64 &&& 63).toBitVec.smod 64 = 8#64 by decide]
  apply BitVec.eq_of_toNat_eq
  rw [BitVec.toNat_or, BitVec.shiftLeft_eq', BitVec.toNat_shiftLeft, BitVec.toNat_ofNat, BitVec.toNat_ofNat, BitVec.toNat_ofNat, BitVec.toNat_ofNat, show 8 % 2 ^ 64 = 8 by decide, Nat.mod_eq_of_lt (show c < 2 ^ 64 by omega)]
  have h1 : (x % 2 ^ 64) <<< 8 % 2 ^ 64 = (x * 256) % 2 ^ 64 := by rw [Nat.shiftLeft_eq]; omega
  have h2 : ∀ z, z % 256 = 0 → z ||| c = z + c := by
    intro z hz
    have := Nat.shiftLeft_add_eq_or_of_lt (show c < 2 ^ 8 by omega) (z / 256)
    rw [Nat.shiftLeft_eq, show (2 : Nat) ^ 8 = 256 from rfl, Nat.div_mul_cancel (Nat.dvd_of_mod_eq_zero hz)] at this
    exact this.symm
  rw [h1, h2 _ (by omega)]
  omega
/-- a word's signs: letters, 1 to 7 -/
def wgd (cs : List Nat) : Bool := decide (0 < cs.length ∧ cs.length < 8) && cs.all (fun c => decide (97 ≤ c ∧ c ≤ 122))
theorem wgd_l {cs : List Nat} (h : wgd cs = true) : 0 < cs.length ∧ cs.length < 8 ∧ ∀ k, k < cs.length → 97 ≤ cs.getD k 0 ∧ cs.getD k 0 ≤ 122 := by
  unfold wgd at h
  rw [Bool.and_eq_true, decide_eq_true_eq, List.all_eq_true] at h
  refine ⟨h.1.1, h.1.2, fun k hk => ?_⟩
  have := h.2 (cs.getD k 0) (by rw [List.getD_eq_getElem?_getD, List.getElem?_eq_getElem hk]; exact List.getElem_mem hk)
  exact of_decide_eq_true this
def pkW (cs : List Nat) : Nat := pkv (fun k => cs.getD k 0) cs.length
/-- the letters from b to e are this word -/
def wqB (T : Nat → Nat) (b e : Nat) (cs : List Nat) : Bool := decide (e = b + cs.length ∧ ∀ k, k < cs.length → T (b + k) = cs.getD k 0)
section Wr
variable {κ : Ko} {rt : AS} {q n p : Nat} {T : Nat → Nat} {w m : Int32}
theorem r_isWord (h : RQ rt q n T p w m) {y : Int64} {cs : List Nat} (hg : wgd cs = true) (hy : y = lN (pkW cs)) : ∃ rt', f_R_isWord κ q y rt = some ((if wqB T (skp T n p) (wen T n (skp T n p)) cs = true then 1 else 0), rt') ∧ RQ rt' q n T (skp T n p) w m ∧ Same (rqW q) rt rt' := by
  have hn := h.1.2.1
  unfold f_R_isWord
  obtain ⟨s1, e1, h1, w1⟩ := r_see (κ := κ) h
  rw [e1, bnd2_t]
  generalize skp T n p = b at *
  have hbn := h1.2.2.1
  have hlo := wen_lo (T := T) hbn
  have hin : ∀ k, b ≤ k → k < wen T n b → 97 ≤ T k ∧ T k ≤ 122 := fun k k1 k2 => by
    have := wen_in (T := T) (n := n) (p := b) k1 k2
    exact of_decide_eq_true this
  have loop : ∀ (k : Int64 → Int64 → Int32 → AS → Option (Int32 × AS)) (r c d : Nat), r < d → c + r = wen T n b - b → L_R_isWord_10 κ k d q y (lN (pkv (fun j => T (b + j)) (min c 8))) (nI c) s1 = k y (lN (pkv (fun j => T (b + j)) (min (wen T n b - b) 8))) (nI (wen T n b - b)) s1 := by
    intro k r
    induction r with
    | zero =>
      intro c d hd hr
      obtain ⟨d, rfl⟩ : ∃ e, d = e + 1 := ⟨d - 1, by omega⟩
      rw [L_R_isWord_10, h1.2.1, nI_add, r_isLetter h1.1 (by omega), bnd_t, show b + c = wen T n b by omega, if_neg (show ¬ (wen T n b < n ∧ tpL T (wen T n b) = true) from fun z => by
        have := wen_st (T := T) hbn z.1
        rw [z.2] at this
        cases this), if_pos rfl, show c = wen T n b - b by omega]
    | succ r ih =>
      intro c d hd hr
      obtain ⟨d, rfl⟩ : ∃ e, d = e + 1 := ⟨d - 1, by omega⟩
      have hb := h1.1.2.2 (b + c) (by omega)
      have hl := hin (b + c) (by omega) (by omega)
      rw [L_R_isWord_10, h1.2.1, nI_add, r_isLetter h1.1 (by omega), bnd_t, if_pos (show b + c < n ∧ tpL T (b + c) = true from ⟨by omega, decide_eq_true hl⟩), if_neg (show ¬ (1 : Int32) = 0 by decide), nI_1]
      have i1 := ih (c + 1) d (by omega) (by omega)
      by_cases h8 : 8 ≤ c
      · rw [if_pos (show (8 : Int32) ≤ nI c from nI_le h8 (by omega))]
        rw [show min (c + 1) 8 = min c 8 by omega] at i1
        exact i1
      · rw [if_neg (show ¬ (8 : Int32) ≤ nI c from nI_ge (b := 8) (by omega) (by decide)), grd_t (vp_in_nI (by omega) (by decide)), nI_clamp (by omega), hb.1, sb_s (by omega), nI_l (by omega), lN_sh (by omega)]
        rw [show min (c + 1) 8 = c + 1 by omega, pkv] at i1
        rw [show min c 8 = c by omega]
        (first | exact i1 | (rw [if_neg (show ¬ (1 : Int32) = 0 by decide)]; exact i1))
  obtain ⟨g1, g2, g3⟩ := wgd_l hg
  have l0 := loop (fun (v8 : Int64) (v9 : Int64) (v10 : Int32) (s11 : AS) => jn (some ((0 : Int32), s11)) fun j12 => if v10 ≤ 0 then j12 else if 8 ≤ v10 then j12 else if v9 = v8 then some ((1 : Int32), s11) else j12) (wen T n b - b) 0 FU (FUn (by omega)) (by omega)
  rw [show lN (pkv (fun j => T (b + j)) (min 0 8)) = (0 : Int64) from rfl, show nI 0 = (0 : Int32) from rfl] at l0
  refine ⟨s1, ?_, h1, w1⟩
  rw [l0]
  simp only [jn_e]
  have c0 := (nI_ltk (m := wen T n b - b) (k := 0) (y := 0) rfl (by omega) (by decide)).2.1
  have c8 := (nI_ltk (m := wen T n b - b) (k := 8) (y := 8) rfl (by omega) (by decide)).2.2.2.1
  simp only [c0, c8]
  by_cases k0 : wen T n b - b ≤ 0
  · rw [if_pos k0, if_neg (fun z => by have := (of_decide_eq_true z).1; omega)]
  · rw [if_neg k0]
    by_cases k8 : 8 ≤ wen T n b - b
    · rw [if_pos k8, if_neg (fun z => by have := (of_decide_eq_true z).1; omega)]
    · rw [if_neg k8, hy, show min (wen T n b - b) 8 = wen T n b - b by omega]
      unfold pkW
      have b1 := pkv_lt (F := fun j => T (b + j)) (wen T n b - b) (fun j hj => by have := hin (b + j) (by omega) (by omega); show T (b + j) < 128; omega)
      have b2 := pkv_lt (F := fun k => cs.getD k 0) cs.length (fun j hj => by have := g3 j hj; show cs.getD j 0 < 128; omega)
      have b3 : 256 ^ (wen T n b - b) ≤ 256 ^ 7 := Nat.pow_le_pow_right (by decide) (by omega)
      have b4 : 256 ^ cs.length ≤ 256 ^ 7 := Nat.pow_le_pow_right (by decide) (by omega)
      have hE := pk_lEQ (a := pkv (fun j => T (b + j)) (wen T n b - b)) (b := pkv (fun k => cs.getD k 0) cs.length) (by omega) (by omega)
      have eqv : pkv (fun j => T (b + j)) (wen T n b - b) = pkv (fun k => cs.getD k 0) cs.length ↔ wqB T b (wen T n b) cs = true := by
        unfold wqB
        rw [decide_eq_true_eq]
        constructor
        · intro z
          obtain ⟨y1, y2⟩ := pkv_inj _ _ (fun j hj => by have := hin (b + j) (by omega) (by omega); show 0 < T (b + j) ∧ T (b + j) < 256; omega) (fun j hj => by have := g3 j hj; show 0 < cs.getD j 0 ∧ cs.getD j 0 < 256; omega) z
          exact ⟨by omega, fun k hk => y2 k (by omega)⟩
        · rintro ⟨y1, y2⟩
          rw [show wen T n b - b = cs.length by omega]
          have : ∀ l, l ≤ cs.length → pkv (fun j => T (b + j)) l = pkv (fun k => cs.getD k 0) l := by
            intro l
            induction l with
            | zero => intro _; rfl
            | succ l ih => intro hl; rw [pkv, pkv, ih (by omega), show T (b + l) = cs.getD l 0 from y2 l (by omega)]
          exact this _ (Nat.le_refl _)
      simp only [hE, eqv]
      split
      · rfl
      · rfl
end Wr
/-- the words of the class's lists -/
def lwB : List (List (List Nat)) := [[[108, 111, 110, 103], [115, 104, 111, 114, 116], [97, 114, 101, 97], [114, 111, 117, 110, 100], [116, 105, 103, 104, 116], [101, 100, 103, 101], [119, 97, 121], [116, 111, 116, 97, 108]],
  [[98, 114, 101, 97, 107, 115], [97, 116], [115, 111, 102, 116]], [[105, 102]], [[110, 111, 116]], [[97, 110, 100]], [[111, 114]], [[112, 114, 101, 115, 115], [102, 111, 108, 100], [116, 117, 114, 110]], [[116, 105, 109, 101, 115]], [[117, 112, 114, 105, 103, 104, 116], [108, 101, 118, 101, 108]],
  [[108, 101, 110, 103, 116, 104], [114, 111, 117, 110, 100], [117, 115, 101, 100], [107, 105, 110, 100], [119, 97, 121], [112, 108, 97, 99, 101], [101, 110, 100, 115], [110, 111, 119]], [[115, 101, 101], [109, 105, 115, 115]]]
def lw (i : Nat) : List (List Nat) := lwB.getD i []
def cJ : List (List Nat) → List Nat
  | [] => []
  | [w] => w
  | w :: x :: ws => w ++ 32 :: cJ (x :: ws)
theorem lw_lit : ∀ i, i < 11 → litN.getD i 0 = (cJ (lw i)).length ∧ (litB.getD i []) = (cJ (lw i)).map nI := by decide +kernel
theorem lw_gd : ∀ i, i < 11 → (lw i).all wgd = true ∧ 0 < (lw i).length ∧ (lw i).length < 9 := by decide +kernel
/-- the first of the words that stands from b to e -/
def wAm (T : Nat → Nat) (b e : Nat) : List (List Nat) → Nat → Option Nat
  | [], _ => none
  | w :: ws, i => if wqB T b e w = true then some i else wAm T b e ws (i + 1)
/-- the class's look along a list's signs -/
def scn (T : Nat → Nat) (b e : Nat) : List Nat → Nat → Option Nat → Option Nat
  | [], i, s => if s = some (e - b) then some i else none
  | c :: cs, i, s => if c = 32 then (if s = some (e - b) then some i else scn T b e cs (i + 1) (some 0)) else scn T b e cs i (match s with | some k => if k < e - b ∧ T (b + k) = c then some (k + 1) else none | none => none)
theorem scn_c {T : Nat → Nat} {b e i c : Nat} {cs : List Nat} {s : Option Nat} : scn T b e (c :: cs) i s = if c = 32 then (if s = some (e - b) then some i else scn T b e cs (i + 1) (some 0)) else scn T b e cs i (match s with | some k => if k < e - b ∧ T (b + k) = c then some (k + 1) else none | none => none) := rfl
theorem scn_none {T : Nat → Nat} {b e i : Nat} : ∀ (w r : List Nat), (∀ c, c ∈ w → c ≠ 32) → scn T b e (w ++ r) i none = scn T b e r i none
  | [], r, _ => rfl
  | c :: w, r, h => by
    rw [List.cons_append, scn, if_neg (h c (by simp))]
    exact scn_none w r (fun x hx => h x (by simp [hx]))
theorem scn_word {T : Nat → Nat} {b e i : Nat} : ∀ (w r : List Nat) (k : Nat), (∀ c, c ∈ w → c ≠ 32) → k ≤ e - b → scn T b e (w ++ r) i (some k) = if k + w.length ≤ e - b ∧ ∀ j, j < w.length → T (b + (k + j)) = w.getD j 0 then scn T b e r i (some (k + w.length)) else scn T b e r i none
  | [], r, k, _, hk => by
    rw [if_pos ⟨by simpa using hk, fun j hj => by simp at hj⟩]
    rfl
  | c :: w, r, k, h, hk => by
    rw [List.cons_append, scn, if_neg (h c (by simp))]
    by_cases hc : k < e - b ∧ T (b + k) = c
    · simp only [if_pos hc]
      rw [scn_word w r (k + 1) (fun x hx => h x (by simp [hx])) (by omega)]
      have eqv : (k + 1 + w.length ≤ e - b ∧ ∀ j, j < w.length → T (b + (k + 1 + j)) = w.getD j 0) ↔ (k + (c :: w).length ≤ e - b ∧ ∀ j, j < (c :: w).length → T (b + (k + j)) = (c :: w).getD j 0) := by
        rw [List.length_cons]
        constructor
        · rintro ⟨z1, z2⟩
          refine ⟨by omega, fun j hj => ?_⟩
          cases j with
          | zero => exact hc.2
          | succ j => rw [show k + (j + 1) = k + 1 + j by omega]; exact z2 j (by omega)
        · rintro ⟨z1, z2⟩
          refine ⟨by omega, fun j hj => ?_⟩
          have := z2 (j + 1) (by omega)
          rw [show k + (j + 1) = k + 1 + j by omega] at this
          exact this
      rw [show k + 1 + w.length = k + (c :: w).length by rw [List.length_cons]; omega] at eqv ⊢
      by_cases hz : k + (c :: w).length ≤ e - b ∧ ∀ j, j < w.length → T (b + (k + 1 + j)) = w.getD j 0
      · rw [if_pos hz, if_pos (eqv.mp hz)]
      · rw [if_neg hz, if_neg (fun z => hz (eqv.mpr z))]
    · simp only [if_neg hc]
      rw [scn_none w r (fun x hx => h x (by simp [hx])), if_neg]
      rintro ⟨z1, z2⟩
      rw [List.length_cons] at z1
      exact hc ⟨by omega, z2 0 (by simp)⟩
theorem scn_list {T : Nat → Nat} {b e : Nat} (hbe : b < e) : ∀ (ws : List (List Nat)) (i : Nat), ws ≠ [] → (∀ w, w ∈ ws → ∀ c, c ∈ w → c ≠ 32) → scn T b e (cJ ws) i (some 0) = wAm T b e ws i
  | [], _, h, _ => absurd rfl h
  | [w], i, _, h => by
    have h1 := scn_word (T := T) (b := b) (e := e) (i := i) w [] 0 (h w (by simp)) (by omega)
    rw [List.append_nil] at h1
    rw [cJ, h1, wAm, wAm]
    unfold wqB
    simp only [decide_eq_true_eq, Nat.zero_add]
    by_cases hc : e = b + w.length ∧ ∀ k, k < w.length → T (b + k) = w.getD k 0
    · rw [if_pos hc, if_pos ⟨by omega, hc.2⟩, scn, if_pos (by congr 1; omega)]
    · rw [if_neg hc]
      by_cases hd : w.length ≤ e - b ∧ ∀ j, j < w.length → T (b + j) = w.getD j 0
      · rw [if_pos hd, scn, if_neg]
        intro z
        have := Option.some.inj z
        exact hc ⟨by omega, hd.2⟩
      · rw [if_neg hd, scn, if_neg (fun z => by cases z)]
  | w :: x :: ws, i, _, h => by
    have h1 := scn_word (T := T) (b := b) (e := e) (i := i) w (32 :: cJ (x :: ws)) 0 (h w (by simp)) (by omega)
    rw [cJ, h1, wAm]
    have h2 := scn_list (T := T) hbe (x :: ws) (i + 1) (by simp) (fun y hy => h y (by simp at hy ⊢; exact Or.inr hy))
    unfold wqB
    simp only [decide_eq_true_eq, Nat.zero_add]
    by_cases hc : e = b + w.length ∧ ∀ k, k < w.length → T (b + k) = w.getD k 0
    · rw [if_pos hc, if_pos ⟨by omega, hc.2⟩, scn, if_pos rfl, if_pos (by congr 1; omega)]
    · rw [if_neg hc]
      by_cases hd : w.length ≤ e - b ∧ ∀ j, j < w.length → T (b + j) = w.getD j 0
      · rw [if_pos hd, scn, if_pos rfl, if_neg, h2]
        intro z
        have := Option.some.inj z
        exact hc ⟨by omega, hd.2⟩
      · rw [if_neg hd, scn, if_pos rfl, if_neg (fun z => by cases z), h2]
theorem wAm_0 {T : Nat → Nat} {b : Nat} : ∀ (ws : List (List Nat)) (i : Nat), ws.all wgd = true → wAm T b b ws i = none
  | [], _, _ => rfl
  | w :: ws, i, h => by
    rw [List.all_cons, Bool.and_eq_true] at h
    have := wgd_l h.1
    rw [wAm, if_neg (fun z => by have := (of_decide_eq_true z).1; omega)]
    exact wAm_0 ws (i + 1) h.2
theorem wAm_e {T : Nat → Nat} {b e : Nat} : ∀ (ws : List (List Nat)) (i j : Nat), wAm T b e ws i = some j → ws.all wgd = true → b < e ∧ i ≤ j ∧ j < i + ws.length
  | [], _, _, h, _ => by cases h
  | w :: ws, i, j, h, hg => by
    rw [List.all_cons, Bool.and_eq_true] at hg
    have := wgd_l hg.1
    rw [wAm] at h
    by_cases hw : wqB T b e w = true
    · rw [if_pos hw] at h
      have e1 := (of_decide_eq_true hw).1
      have := Option.some.inj h
      rw [List.length_cons]
      omega
    · rw [if_neg hw] at h
      have := wAm_e ws (i + 1) j h hg.2
      rw [List.length_cons]
      omega
/-- what word of list i stands next; none after a fault -/
def wRs (T : Nat → Nat) (n p : Nat) (f : Int32) (i : Nat) : Option Nat := if f = 0 then wAm T (skp T n p) (wen T n (skp T n p)) (lw i) 0 else none
def oI (o : Option Nat) : Int32 := match o with | none => -1 | some j => nI j
theorem oI_n {o : Option Nat} (h : ∀ j, o = some j → j < 1000) : oI o = -1 ↔ o = none := by
  cases o with
  | none => exact ⟨fun _ => rfl, fun _ => rfl⟩
  | some j =>
    have := h j rfl
    refine ⟨fun z => ?_, fun z => by cases z⟩
    have : (nI j).toInt = (-1 : Int32).toInt := congrArg Int32.toInt z
    rw [nI_toInt (by omega), show (-1 : Int32).toInt = -1 by decide] at this
    omega
theorem wRs_lt {T : Nat → Nat} {n p i : Nat} {f : Int32} (hi : i < 11) : ∀ j, wRs T n p f i = some j → skp T n p < wen T n (skp T n p) ∧ j < (lw i).length ∧ j < 1000 := by
  intro j h
  unfold wRs at h
  have hg := lw_gd i hi
  by_cases hf : f = 0
  · rw [if_pos hf] at h
    have := wAm_e _ _ _ h hg.1
    omega
  · rw [if_neg hf] at h
    cases h
section Wd
variable {κ : Ko} {st : AS} {a ta n p : Nat} {T : Nat → Nat} {f m : Int32}
theorem litC_e {i k : Nat} (hi : i < 11) (hk : k < (cJ (lw i)).length) : litC i k = nI ((cJ (lw i)).getD k 0) := by
  unfold litC
  rw [(lw_lit i hi).2, List.getD_eq_getElem?_getD, List.getD_eq_getElem?_getD, List.getElem?_map, List.getElem?_eq_getElem hk]
  rfl
/-- the state of the class's look: how much fits, -1 if it has gone wrong -/
theorem d_scan (h : RS κ st a ta n T p f m) {i b e : Nat} (hi : i < 11) (hf : f = 0) (hbe : b < e) (hen : e ≤ n) (hT : ∀ k, b ≤ k → k < e → T k < 128) : ∀ (r : Nat) (k : Nat) (d : Nat) (idx : Nat) (s : Option Nat), r + 1 < d → k + r = (cJ (lw i)).length → (∀ x, s = some x → x ≤ e - b) →
    ∃ st', L_Rd_wordAmong_51 κ d a i (nI b) (nI e) (nI idx) (oI s) (nI k) st = some (oI (scn T b e ((cJ (lw i)).drop k) idx s), st') ∧ RS κ st' a ta n T (match scn T b e ((cJ (lw i)).drop k) idx s with | some _ => e | none => p) f m ∧ Same (rdW a) st st' := by
  have hN := (lw_lit i hi).1
  have hNb : (cJ (lw i)).length < 100 := by
    have : ∀ i, i < 11 → (cJ (lw i)).length < 100 := by decide +kernel
    exact this i hi
  have hn := h.1.2.2.1
  have hch : ∀ i, i < 11 → ∀ k, k < (cJ (lw i)).length → (cJ (lw i)).getD k 0 < 128 := by decide +kernel
  intro r
  induction r with
  | zero =>
    intro k d idx s hd hk hs
    obtain ⟨d, rfl⟩ : ∃ e, d = e + 1 := ⟨d - 1, by omega⟩
    rw [List.drop_of_length_le (by omega), scn, L_Rd_wordAmong_51, hN, if_neg (nI_nlt (by omega) (by omega)), h.2.2.2.1, if_pos hf, if_neg (nI_ge hbe (by omega))]
    simp only [jn_e]
    rw [if_pos (show nI k = nI (cJ (lw i)).length by rw [show k = (cJ (lw i)).length by omega]), if_neg (show ¬ (1 : Int32) = 0 by decide), nI_sub (by omega)]
    cases s with
    | none =>
      rw [if_neg (show ¬ oI none = nI (e - b) from fun z => by
        have : (-1 : Int32).toInt = (nI (e - b)).toInt := congrArg Int32.toInt z
        rw [nI_toInt (by omega), show (-1 : Int32).toInt = -1 by decide] at this
        omega), if_neg (fun z => by cases z)]
      obtain ⟨d, rfl⟩ : ∃ e, d = e + 1 := ⟨d - 1, by omega⟩
      (first | rw [if_neg (show ¬ (1 : Int32) = 0 by decide), L_Rd_wordAmong_51, hN, nI_1, if_pos (nI_lt (by omega) (by omega))] | rw [L_Rd_wordAmong_51, hN, nI_1, if_pos (nI_lt (by omega) (by omega))])
      exact ⟨st, rfl, h, Same.rf _ _⟩
    | some x =>
      have hx := hs x rfl
      by_cases hxe : x = e - b
      · subst hxe
        rw [if_pos (show oI (some (e - b)) = nI (e - b) from rfl), if_pos rfl]
        exact ⟨_, rfl, h.at hen, rd_2 (Same.rf _ _)⟩
      · rw [if_neg (show ¬ oI (some x) = nI (e - b) from fun z => hxe ((nI_eq (by omega) (by omega)).mp z)), if_neg (fun z => hxe (Option.some.inj z))]
        obtain ⟨d, rfl⟩ : ∃ e, d = e + 1 := ⟨d - 1, by omega⟩
        (first | rw [if_neg (show ¬ (1 : Int32) = 0 by decide), L_Rd_wordAmong_51, hN, nI_1, if_pos (nI_lt (by omega) (by omega))] | rw [L_Rd_wordAmong_51, hN, nI_1, if_pos (nI_lt (by omega) (by omega))])
        exact ⟨st, rfl, h, Same.rf _ _⟩
  | succ r ih =>
    intro k d idx s hd hk hs
    obtain ⟨d, rfl⟩ : ∃ e, d = e + 1 := ⟨d - 1, by omega⟩
    have hkl : k < (cJ (lw i)).length := by omega
    have hc := hch i hi k hkl
    have hcE : (cJ (lw i))[k] = (cJ (lw i)).getD k 0 := by rw [List.getD_eq_getElem?_getD, List.getElem?_eq_getElem hkl]; rfl
    have hch1 : f_Js_charAt κ i (nI k) st = some (nI ((cJ (lw i)).getD k 0)) := by
      unfold f_Js_charAt
      rw [nI_clamp (by omega), grd_t ⟨rfl, by rw [hN]; exact hkl⟩, litC_e hi hkl]
    rw [List.drop_eq_getElem_cons hkl, scn_c, hcE, L_Rd_wordAmong_51, hN, if_neg (nI_nlt (by omega) (by omega)), h.2.2.2.1, if_pos hf, if_neg (nI_ge hbe (by omega))]
    simp only [jn_e]
    rw [if_neg (show ¬ nI k = nI (cJ (lw i)).length from fun z => by rw [nI_eq (by omega) (by omega)] at z; omega), hch1, bnd_t, nI_1, nI_1]
    have c32 := (nI_ltk (m := (cJ (lw i)).getD k 0) (k := 32) (y := 32) rfl (by omega) (by decide)).2.2.2.2
    simp only [c32]
    by_cases h32 : (cJ (lw i)).getD k 0 = 32
    · rw [if_pos h32, if_pos h32, if_neg (show ¬ (1 : Int32) = 0 by decide), nI_sub (by omega)]
      have i1 := ih (k + 1) d (idx + 1) (some 0) (by omega) (by omega) (fun x hx => by have := Option.some.inj hx; omega)
      cases s with
      | none =>
        rw [if_neg (show ¬ oI none = nI (e - b) from fun z => by
          have : (-1 : Int32).toInt = (nI (e - b)).toInt := congrArg Int32.toInt z
          rw [nI_toInt (by omega), show (-1 : Int32).toInt = -1 by decide] at this
          omega), if_neg (fun z => by cases z)]
        (first | exact i1 | (rw [if_neg (show ¬ (1 : Int32) = 0 by decide)]; exact i1))
      | some x =>
        have hx := hs x rfl
        by_cases hxe : x = e - b
        · subst hxe
          rw [if_pos (show oI (some (e - b)) = nI (e - b) from rfl), if_pos rfl]
          exact ⟨_, rfl, h.at hen, rd_2 (Same.rf _ _)⟩
        · rw [if_neg (show ¬ oI (some x) = nI (e - b) from fun z => hxe ((nI_eq (by omega) (by omega)).mp z)), if_neg (fun z => hxe (Option.some.inj z))]
          (first | exact i1 | (rw [if_neg (show ¬ (1 : Int32) = 0 by decide)]; exact i1))
    · rw [if_neg h32, if_neg h32]
      simp only [if_true]
      cases s with
      | none =>
        rw [if_pos (show oI none < 0 by decide)]
        exact ih (k + 1) d idx none (by omega) (by omega) (fun x hx => by cases hx)
      | some x =>
        have hx := hs x rfl
        rw [if_neg (show ¬ oI (some x) < 0 from nI_pos (by omega)), nI_sub (by omega)]
        dsimp only
        by_cases hlt : x < e - b
        · have hb' := h.1.2.2.2.2.1 (b + x) (by omega)
          rw [if_neg (show ¬ nI (e - b) ≤ oI (some x) from nI_ge hlt (by omega)), h.1.1, bnd_t, grd_t h.1.2.1, bnd_t, show nI b + oI (some x) = nI (b + x) from nI_add _ _, gat_n rfl (by omega) (by decide), hb'.1]
          have := hT (b + x) (by omega) (by omega)
          simp only [nI_eq (show T (b + x) < 2 ^ 31 by omega) (show (cJ (lw i)).getD k 0 < 2 ^ 31 by omega)]
          by_cases he : T (b + x) = (cJ (lw i)).getD k 0
          · rw [if_pos he, if_neg (show ¬ (1 : Int32) = 0 by decide), if_pos (show x < e - b ∧ T (b + x) = (cJ (lw i)).getD k 0 from ⟨hlt, he⟩), show oI (some x) + 1 = oI (some (x + 1)) from nI_1 _]
            exact ih (k + 1) d idx (some (x + 1)) (by omega) (by omega) (fun y hy => by have := Option.some.inj hy; omega)
          · rw [if_neg he, if_neg (show ¬ (x < e - b ∧ T (b + x) = (cJ (lw i)).getD k 0) from fun z => he z.2)]
            exact ih (k + 1) d idx none (by omega) (by omega) (fun x hx => by cases hx)
        · rw [if_pos (show nI (e - b) ≤ oI (some x) from nI_le (by omega) (by omega)), if_neg (show ¬ (x < e - b ∧ T (b + x) = (cJ (lw i)).getD k 0) from fun z => hlt z.1)]
          exact ih (k + 1) d idx none (by omega) (by omega) (fun x hx => by cases hx)
theorem d_word (h : RS κ st a ta n T p f m) {i : Nat} (hi : i < 11) : ∃ st', f_Rd_wordAmong κ a i st = some (oI (wRs T n p f i), st') ∧ RS κ st' a ta n T (match wRs T n p f i with | some _ => wen T n (skp T n p) | none => skp T n p) f m ∧ Same (rdW a) st st' := by
  have hn := h.1.2.2.1
  unfold f_Rd_wordAmong
  obtain ⟨s1, e1, h1, w1⟩ := d_next h
  rw [e1, bnd2_t]
  unfold wRs
  generalize skp T n p = b at *
  have hbn := h1.2.2.1
  have hlo := wen_lo (T := T) hbn
  have hin : ∀ k, b ≤ k → k < wen T n b → 97 ≤ T k ∧ T k ≤ 122 := fun k k1 k2 => of_decide_eq_true (wen_in (T := T) (n := n) (p := b) k1 k2)
  have loop : ∀ (k : Nat → Nat → Int32 → Int32 → AS → Option (Int32 × AS)) (r c d : Nat), r < d → c + r = n → b ≤ c → c ≤ wen T n b → L_Rd_wordAmong_7 κ k d a i (nI b) (nI c) s1 = k a i (nI b) (nI (wen T n b)) s1 := by
    intro k r
    induction r with
    | zero =>
      intro c d hd hr h2 h3
      obtain ⟨d, rfl⟩ : ∃ e, d = e + 1 := ⟨d - 1, by omega⟩
      rw [L_Rd_wordAmong_7, h1.1.2.2.2.1, if_pos (nI_le (by omega) (by omega)), show c = wen T n b by omega]
    | succ r ih =>
      intro c d hd hr h2 h3
      obtain ⟨d, rfl⟩ : ∃ e, d = e + 1 := ⟨d - 1, by omega⟩
      have hb := h1.1.2.2.2.2.1 c (by omega)
      rw [L_Rd_wordAmong_7, h1.1.2.2.2.1, if_neg (nI_ge (by omega) (by omega)), h1.1.1, bnd_t, grd_t h1.1.2.1, gat_n rfl (by omega) (by decide), hb.1]
      rw [show (97 : Int64) = (nI 97).toInt64 from rfl, show (122 : Int64) = (nI 122).toInt64 from rfl, nI_1]
      simp only [wi_t, nI_leI (show 97 < 2 ^ 31 by decide) (show T c < 2 ^ 31 by omega), nI_leI (show T c < 2 ^ 31 by omega) (show 122 < 2 ^ 31 by decide)]
      by_cases hc : c < wen T n b
      · rw [if_neg (fun z => z (hin c h2 hc))]
        exact ih (c + 1) d (by omega) (by omega) (by omega) (by omega)
      · obtain rfl : c = wen T n b := by omega
        have := wen_st (T := T) hbn (by omega)
        rw [if_pos (of_decide_eq_false this)]
  rw [loop _ (n - b) b FU (FUn (by omega)) (by omega) (Nat.le_refl _) hlo.1]
  show ∃ st', L_Rd_wordAmong_51 κ FU a i (nI b) (nI (wen T n b)) 0 0 0 s1 = _ ∧ _
  have hN := (lw_lit i hi).1
  have hNb : (cJ (lw i)).length < 100 := by
    have : ∀ i, i < 11 → (cJ (lw i)).length < 100 := by decide +kernel
    exact this i hi
  have hg := lw_gd i hi
  by_cases hf : f = 0
  · rw [if_pos hf]
    by_cases hbe : b < wen T n b
    · obtain ⟨s2, e2, h2, w2⟩ := d_scan h1 hi hf hbe hlo.2 (fun k k1 k2 => by have := hin k k1 k2; omega) (cJ (lw i)).length 0 FU 0 (some 0) (by have := FUn (n := (cJ (lw i)).length + 1) (by omega); exact this) (by omega) (fun x hx => by have := Option.some.inj hx; omega)
      rw [List.drop_zero, scn_list hbe (lw i) 0 (fun z => by rw [z] at hg; exact absurd hg.2.1 (by decide)) (fun w hw c hc z => by
        have := (List.all_eq_true.mp hg.1) w hw
        unfold wgd at this
        rw [Bool.and_eq_true, List.all_eq_true] at this
        have := of_decide_eq_true (this.2 c hc)
        omega)] at e2 h2
      exact ⟨s2, e2, h2, w1.tr w2⟩
    · have e : wen T n b = b := by omega
      rw [e, wAm_0 _ _ hg.1]
      refine ⟨s1, ?_, h1, w1⟩
      rw [show FU = (FU - 1) + 1 from rfl, L_Rd_wordAmong_51, hN, if_neg (show ¬ nI (cJ (lw i)).length < 0 from nI_pos (by omega)), h1.2.2.2.1, if_pos hf, if_pos (nI_le (Nat.le_refl _) (by omega))]
      rfl
  · rw [if_neg hf]
    refine ⟨s1, ?_, h1, w1⟩
    rw [show FU = (FU - 1) + 1 from rfl, L_Rd_wordAmong_51, hN, if_neg (show ¬ nI (cJ (lw i)).length < 0 from nI_pos (by omega)), h1.2.2.2.1, if_neg hf]
    rfl
theorem d_takesW (h : RS κ st a ta n T p f m) {i : Nat} (hi : i < 11) : ∃ st', f_Rd_takesWord κ a i st = some ((match wRs T n p f i with | some _ => 1 | none => 0), st') ∧ RS κ st' a ta n T (match wRs T n p f i with | some _ => wen T n (skp T n p) | none => skp T n p) f m ∧ Same (rdW a) st st' := by
  unfold f_Rd_takesWord
  obtain ⟨s1, e1, h1, w1⟩ := d_word h hi
  rw [e1, bnd2_t]
  refine ⟨s1, ?_, h1, w1⟩
  have hlt := wRs_lt (T := T) (n := n) (p := p) (f := f) hi
  generalize wRs T n p f i = o at *
  simp only [oI_n (fun j hj => (hlt j hj).2.2)]
  cases o with
  | none => rfl
  | some j => rw [if_neg (fun z => by cases z)]
end Wd
section Wh
variable {κ : Ko} {rt : AS} {q n p : Nat} {T : Nat → Nat} {m : Int32}
/-- the reference's word of a law, of a rule -/
theorem r_wordHere (h : RQ rt q n T p 0 m) {t : Nat} (ht : gi rt q 14 = nI t) (ht2 : t < 6 ∨ 12 ≤ t ∧ t < 18) : ∃ rt', f_R_wordHere κ q rt = some (oI (wAm T (skp T n p) (wen T n (skp T n p)) (lw (if t < 6 then 0 else 9)) 0), rt') ∧ RQ rt' q n T (skp T n p) 0 m ∧ Same (rqW q) rt rt' := by
  unfold f_R_wordHere
  have hsk := skp_skp (T := T) h.2.2.1
  have hx : ∀ (y0 y1 : Int64), (if (if (6 : Int32) ≤ gi rt q 14 then (0 : Int32) else 1) = 0 then y0 else y1) = if t < 6 then y1 else y0 := by
    intro y0 y1
    rw [ht]
    by_cases h6 : t < 6
    · rw [if_neg (show ¬ (6 : Int32) ≤ nI t from nI_ge (b := 6) h6 (by decide)), if_neg (show ¬ (1 : Int32) = 0 by decide), if_pos h6]
    · rw [if_pos (show (6 : Int32) ≤ nI t from nI_le (a := 6) (by omega) (by omega)), if_pos rfl, if_neg h6]
  simp only [hx]
  have step : ∀ {s1 : AS} {c0 c1 : List Nat} {y0 y1 : Int64}, (∃ p', RQ s1 q n T p' 0 m ∧ skp T n p' = skp T n p) → Same (rqW q) rt s1 → wgd c0 = true → wgd c1 = true → y0 = lN (pkW c0) → y1 = lN (pkW c1) → ∃ s2, f_R_isWord κ q (if t < 6 then y0 else y1) s1 = some ((if wqB T (skp T n p) (wen T n (skp T n p)) (if t < 6 then c0 else c1) = true then 1 else 0), s2) ∧ RQ s2 q n T (skp T n p) 0 m ∧ Same (rqW q) rt s2 := by
    intro s1 c0 c1 y0 y1 hh hs g0 g1 e0 e1
    obtain ⟨p', hR, hp⟩ := hh
    by_cases h6 : t < 6
    · simp only [if_pos h6]
      obtain ⟨s2, a1, a2, a3⟩ := r_isWord (κ := κ) hR g0 e0
      rw [hp] at a1 a2
      exact ⟨s2, a1, a2, hs.tr a3⟩
    · simp only [if_neg h6]
      obtain ⟨s2, a1, a2, a3⟩ := r_isWord (κ := κ) hR g1 e1
      rw [hp] at a1 a2
      exact ⟨s2, a1, a2, hs.tr a3⟩
  have fin : lw (if t < 6 then 0 else 9) = [if t < 6 then [108, 111, 110, 103] else [108, 101, 110, 103, 116, 104], if t < 6 then [115, 104, 111, 114, 116] else [114, 111, 117, 110, 100], if t < 6 then [97, 114, 101, 97] else [117, 115, 101, 100], if t < 6 then [114, 111, 117, 110, 100] else [107, 105, 110, 100], if t < 6 then [116, 105, 103, 104, 116] else [119, 97, 121], if t < 6 then [101, 100, 103, 101] else [112, 108, 97, 99, 101], if t < 6 then [119, 97, 121] else [101, 110, 100, 115], if t < 6 then [116, 111, 116, 97, 108] else [110, 111, 119]] := by
    by_cases h6 : t < 6
    · simp only [if_pos h6]; rfl
    · simp only [if_neg h6]; rfl
  rw [fin]
  simp only [wAm]
  have one : ∀ (b : Bool), ((if b = true then (1 : Int32) else 0) = 0) = (b = false) := fun b => by cases b <;> decide
  obtain ⟨s1, e1, h1, w1⟩ := step (c0 := [108, 111, 110, 103]) (c1 := [108, 101, 110, 103, 116, 104]) (y0 := 1819242087) (y1 := 119182899770472) ⟨p, h, rfl⟩ (Same.rf _ _) rfl rfl rfl rfl
  rw [e1, bnd2_t]
  by_cases k1 : wqB T (skp T n p) (wen T n (skp T n p)) (if t < 6 then [108, 111, 110, 103] else [108, 101, 110, 103, 116, 104]) = true
  · rw [if_pos k1, if_pos k1, if_neg (by decide)]; exact ⟨s1, rfl, h1, w1⟩
  rw [if_neg k1, if_neg k1, if_pos rfl]
  obtain ⟨s2, e2, h2, w2⟩ := step (c0 := [115, 104, 111, 114, 116]) (c1 := [114, 111, 117, 110, 100]) (y0 := 495673373300) (y1 := 491496238692) ⟨_, h1, hsk⟩ w1 rfl rfl rfl rfl
  rw [e2, bnd2_t]
  by_cases k2 : wqB T (skp T n p) (wen T n (skp T n p)) (if t < 6 then [115, 104, 111, 114, 116] else [114, 111, 117, 110, 100]) = true
  · rw [if_pos k2, if_pos k2, if_neg (by decide)]; exact ⟨s2, rfl, h2, w2⟩
  rw [if_neg k2, if_neg k2, if_pos rfl]
  obtain ⟨s3, e3, h3, w3⟩ := step (c0 := [97, 114, 101, 97]) (c1 := [117, 115, 101, 100]) (y0 := 1634887009) (y1 := 1970496868) ⟨_, h2, hsk⟩ w2 rfl rfl rfl rfl
  rw [e3, bnd2_t]
  by_cases k3 : wqB T (skp T n p) (wen T n (skp T n p)) (if t < 6 then [97, 114, 101, 97] else [117, 115, 101, 100]) = true
  · rw [if_pos k3, if_pos k3, if_neg (by decide)]; exact ⟨s3, rfl, h3, w3⟩
  rw [if_neg k3, if_neg k3, if_pos rfl]
  obtain ⟨s4, e4, h4, w4⟩ := step (c0 := [114, 111, 117, 110, 100]) (c1 := [107, 105, 110, 100]) (y0 := 491496238692) (y1 := 1802071652) ⟨_, h3, hsk⟩ w3 rfl rfl rfl rfl
  rw [e4, bnd2_t]
  by_cases k4 : wqB T (skp T n p) (wen T n (skp T n p)) (if t < 6 then [114, 111, 117, 110, 100] else [107, 105, 110, 100]) = true
  · rw [if_pos k4, if_pos k4, if_neg (by decide)]; exact ⟨s4, rfl, h4, w4⟩
  rw [if_neg k4, if_neg k4, if_pos rfl]
  obtain ⟨s5, e5, h5, w5⟩ := step (c0 := [116, 105, 103, 104, 116]) (c1 := [119, 97, 121]) (y0 := 499984590964) (y1 := 7823737) ⟨_, h4, hsk⟩ w4 rfl rfl rfl rfl
  rw [e5, bnd2_t]
  by_cases k5 : wqB T (skp T n p) (wen T n (skp T n p)) (if t < 6 then [116, 105, 103, 104, 116] else [119, 97, 121]) = true
  · rw [if_pos k5, if_pos k5, if_neg (by decide)]; exact ⟨s5, rfl, h5, w5⟩
  rw [if_neg k5, if_neg k5, if_pos rfl]
  obtain ⟨s6, e6, h6, w6⟩ := step (c0 := [101, 100, 103, 101]) (c1 := [112, 108, 97, 99, 101]) (y0 := 1701078885) (y1 := 482854658917) ⟨_, h5, hsk⟩ w5 rfl rfl rfl rfl
  rw [e6, bnd2_t]
  by_cases k6 : wqB T (skp T n p) (wen T n (skp T n p)) (if t < 6 then [101, 100, 103, 101] else [112, 108, 97, 99, 101]) = true
  · rw [if_pos k6, if_pos k6, if_neg (by decide)]; exact ⟨s6, rfl, h6, w6⟩
  rw [if_neg k6, if_neg k6, if_pos rfl]
  obtain ⟨s7, e7, h7, w7⟩ := step (c0 := [119, 97, 121]) (c1 := [101, 110, 100, 115]) (y0 := 7823737) (y1 := 1701733491) ⟨_, h6, hsk⟩ w6 rfl rfl rfl rfl
  rw [e7, bnd2_t]
  by_cases k7 : wqB T (skp T n p) (wen T n (skp T n p)) (if t < 6 then [119, 97, 121] else [101, 110, 100, 115]) = true
  · rw [if_pos k7, if_pos k7, if_neg (by decide)]; exact ⟨s7, rfl, h7, w7⟩
  rw [if_neg k7, if_neg k7, if_pos rfl]
  obtain ⟨s8, e8, h8, w8⟩ := step (c0 := [116, 111, 116, 97, 108]) (c1 := [110, 111, 119]) (y0 := 500086104428) (y1 := 7237495) ⟨_, h7, hsk⟩ w7 rfl rfl rfl rfl
  rw [e8, bnd2_t]
  by_cases k8 : wqB T (skp T n p) (wen T n (skp T n p)) (if t < 6 then [116, 111, 116, 97, 108] else [110, 111, 119]) = true
  · rw [if_pos k8, if_pos k8, if_neg (by decide)]; exact ⟨s8, rfl, h8, w8⟩
  rw [if_neg k8, if_neg k8, if_pos rfl]
  exact ⟨s8, rfl, h8, w8⟩
end Wh
