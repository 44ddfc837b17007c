/-! the reference's clause: which it is -/
noncomputable def ch2 (κ : Ko) (a0 : Nat) (s2 : AS) (v26 : Int32) (s27 : AS) : Option (Int32 × AS) := if v26 = 0 then grd (((f_R_fails κ a0 (0 : Int32) (gi s2 a0 11) s27).1) = 0 ∨ ((f_R_fails κ a0 (0 : Int32) (gi s2 a0 11) s27).1) = 1) (some (((f_R_fails κ a0 (0 : Int32) (gi s2 a0 11) s27).1), ((f_R_fails κ a0 (0 : Int32) (gi s2 a0 11) s27).2))) else if (gi s27 a0 17) = 12 then grd (((f_R_fails κ a0 (4 : Int32) (gi s2 a0 11) s27).1) = 0 ∨ ((f_R_fails κ a0 (4 : Int32) (gi s2 a0 11) s27).1) = 1) (some (((f_R_fails κ a0 (4 : Int32) (gi s2 a0 11) s27).1), ((f_R_fails κ a0 (4 : Int32) (gi s2 a0 11) s27).2))) else if ((gi s2 a0 14) / 6) = 0 then bnd2 (f_R_isWord κ a0 (1936680564 : Int64) (ui s27 a0 17 ((gi s27 a0 17) + 1))) (fun v43 s44 => if v43 = 0 then bnd2 (f_R_isWord κ a0 (108243466677107 : Int64) s44) (fun v45 s46 => bnd2 (f_R_clauseOf κ a0 (if v45 = 0 then (1 : Int32) else (0 : Int32) : Int32) (1 : Int32) s46) (fun v47 s48 => grd (v47 = 0 ∨ v47 = 1) (some (v47, s48)))) else bnd2 (f_R_softened κ a0 (gi s2 a0 11) s44) (fun v50 s51 => grd (v50 = 0 ∨ v50 = 1) (some (v50, s51)))) else if ((gi s2 a0 14) / 6) = 1 then bnd2 (f_R_isWord κ a0 (482955588467 : Int64) (ui s27 a0 17 ((gi s27 a0 17) + 1))) (fun v33 s34 => jn (fun (v38 : Int32) (s39 : AS) => bnd2 (f_R_acted κ a0 v38 s39) (fun v40 s41 => grd (v40 = 0 ∨ v40 = 1) (some (v40, s41)))) fun j37 => if v33 = 0 then bnd2 (f_R_isWord κ a0 (1718578276 : Int64) s34) (fun v35 s36 => j37 (if v35 = 0 then (2 : Int32) else (1 : Int32) : Int32) s36) else j37 (0 : Int32) s34) else bnd2 (f_R_isWord κ a0 (7562597 : Int64) (ui s27 a0 17 ((gi s27 a0 17) + 1))) (fun v28 s29 => bnd2 (f_R_clauseOf κ a0 (if v28 = 0 then (1 : Int32) else (0 : Int32) : Int32) (0 : Int32) s29) (fun v30 s31 => grd (v30 = 0 ∨ v30 = 1) (some (v30, s31))))
theorem f_clauseHere_e (κ : Ko) (a0 : Nat) (st : AS) : f_R_clauseHere κ a0 st = bnd2 (f_R_see κ a0 st) (fun v1 s2 => if ((gi s2 a0 14) / 6) = 0 then bnd2 (f_R_isWord κ a0 (108243466677107 : Int64) s2) (fun v17 s18 => jn (fun (s24 : AS) => ch2 κ a0 s2 (1 : Int32) s24) fun j23 => if v17 = 0 then bnd2 (f_R_isWord κ a0 (24948 : Int64) s18) (fun v19 s20 => if v19 = 0 then bnd2 (f_R_isWord κ a0 (1936680564 : Int64) s20) (fun v21 s22 => if v21 = 0 then ch2 κ a0 s2 (0 : Int32) s22 else j23 s22) else j23 s20) else j23 s18) else if ((gi s2 a0 14) / 6) = 1 then bnd2 (f_R_isWord κ a0 (482955588467 : Int64) s2) (fun v9 s10 => jn (fun (s16 : AS) => ch2 κ a0 s2 (1 : Int32) s16) fun j15 => if v9 = 0 then bnd2 (f_R_isWord κ a0 (1718578276 : Int64) s10) (fun v11 s12 => if v11 = 0 then bnd2 (f_R_isWord κ a0 (1953854062 : Int64) s12) (fun v13 s14 => if v13 = 0 then ch2 κ a0 s2 (0 : Int32) s14 else j15 s14) else j15 s12) else j15 s10) else bnd2 (f_R_isWord κ a0 (7562597 : Int64) s2) (fun v3 s4 => jn (fun (s8 : AS) => ch2 κ a0 s2 (1 : Int32) s8) fun j7 => if v3 = 0 then bnd2 (f_R_isWord κ a0 (1835627379 : Int64) s4) (fun v5 s6 => if v5 = 0 then ch2 κ a0 s2 (0 : Int32) s6 else j7 s6) else j7 s4)) := rfl
/-- the lines counted too -/
def phW (q t p j : Nat) : Prop := pbW q t p j ∨ p = q ∧ j = 17
theorem pb_ph {q t : Nat} {s1 s2 : AS} (h : Same (pbW q t) s1 s2) : Same (phW q t) s1 s2 := h.mono (fun _ _ z => Or.inl z)
theorem rq_ph {q t : Nat} {s1 s2 : AS} (h : Same (rqW q) s1 s2) : Same (phW q t) s1 s2 := pb_ph (rq_pb h)
theorem KQ.ph {rs rs' : AS} {q t : Nat} {K : List c4} (h : KQ rs q t K) (hw : Same (phW q t) rs rs') : KQ rs' q t K := h.of hw (fun z => by unfold phW pbW cqW at z; omega) (fun j _ z => by unfold phW pbW cqW at z; omega)
section Here
variable {κ : Ko} {t n q p b : Nat} {T : Nat → Nat} {rs : AS} {m : Int32} {L : List (Nat × Nat)}
theorem iw1 (h : RR_ rs q t n T p m L) (hb : skp T n p = b) {y : Int64} {cs : List Nat} (hg : wgd cs = true) (hy : y = lN (pkW cs)) (hw : wqB T b (wen T n b) cs = true) : ∃ rs', f_R_isWord κ q y rs = some (1, rs') ∧ RR_ rs' q t n T b m L ∧ Same (rqW q) rs rs' := by
  obtain ⟨r, g, k, v⟩ := r_isWord (κ := κ) h.1 hg hy
  rw [hb, hw, if_pos rfl] at g
  rw [hb] at k
  exact ⟨r, g, h.of k v, v⟩
theorem iw0 (h : RR_ rs q t n T p m L) (hb : skp T n p = b) {y : Int64} {cs : List Nat} (hg : wgd cs = true) (hy : y = lN (pkW cs)) (hw : ¬ wqB T b (wen T n b) cs = true) : ∃ rs', f_R_isWord κ q y rs = some (0, rs') ∧ RR_ rs' q t n T b m L ∧ Same (rqW q) rs rs' := by
  obtain ⟨r, g, k, v⟩ := r_isWord (κ := κ) h.1 hg hy
  rw [hb, if_neg hw] at g
  rw [hb] at k
  exact ⟨r, g, h.of k v, v⟩
theorem wq_one {cs es : List Nat} {e : Nat} (h : wqB T b e cs = true) (hne : cs ≠ es) : ¬ wqB T b e es = true := by
  have h1 := of_decide_eq_true h
  intro z
  have z := of_decide_eq_true z
  refine hne ?_
  apply List.ext_getElem (by omega)
  intro k k1 k2
  have a1 := h1.2 k k1
  have a2 := z.2 k k2
  rw [List.getD_eq_getElem?_getD, List.getElem?_eq_getElem k1] at a1
  rw [List.getD_eq_getElem?_getD, List.getElem?_eq_getElem k2] at a2
  exact a1.symm.trans a2
/-- a truth handed on -/
def gG (v : Int32) (s : AS) : Option (Int32 × AS) := some (v, s)
noncomputable def gGr (v : Int32) (s : AS) : Option (Int32 × AS) := grd (v = 0 ∨ v = 1) (some (v, s))
theorem ln_ (h : RR_ rs q t n T p m L) (v : Int32) : RR_ (ui rs q 17 v) q t n T p m L ∧ Same (phW q t) rs (ui rs q 17 v) := by
  have w : Same (fun p j => p = q ∧ j = 17) rs (ui rs q 17 v) := (Same.rf _ rs).ui ⟨rfl, rfl⟩
  refine ⟨⟨⟨⟨by rw [(w q 1 (fun z => by omega)).1]; exact h.1.1.1, h.1.1.2.1, fun k hk => by rw [(w (q + 1) k (fun z => by omega)).1]; exact h.1.1.2.2 k hk⟩, by rw [(w q 11 (fun z => by omega)).1]; exact h.1.2.1, h.1.2.2.1, by rw [(w q 12 (fun z => by omega)).1]; exact h.1.2.2.2.1, by rw [(w q 15 (fun z => by omega)).1]; exact h.1.2.2.2.2⟩, by rw [(w q 14 (fun z => by omega)).1]; exact h.2.1, h.2.2.of w (fun z => by omega) (fun j z => by omega)⟩, w.mono (fun _ _ z => Or.inr z)⟩
theorem kd6 {t k : Nat} (h : t / 6 = k) (ht : t < 18) : nI t / 6 = nI k := by
  rw [show (6 : Int32) = nI 6 from rfl, pk_div (by omega) (by decide) (by decide), h]
/-- which clause it is: none, one too many, this one -/
def whc (T : Nat → Nat) (n b x5 li : Nat) : Nat ⊕ Nat := match wAm T b (wen T n b) (lw li) 0 with | none => Sum.inl (1 + 8 * b + 0) | some j => if x5 = 12 then Sum.inl (1 + 8 * b + 4) else Sum.inr j
/-- what the reference does with a clause of a kind -/
noncomputable def actK (κ : Ko) (q b kd j : Nat) (s : AS) : Option (Int32 × AS) := if kd = 0 then (if j = 2 then bnd2 (f_R_softened κ q (nI b) s) gGr else bnd2 (f_R_clauseOf κ q (nI j) 1 s) gGr) else if kd = 1 then bnd2 (f_R_acted κ q (nI j) s) gGr else bnd2 (f_R_clauseOf κ q (nI j) 0 s) gGr
/-- a good word: the second part -/
theorem r_ch2 (h : RR_ rs q t n T p m L) {s2 : AS} (hb : skp T n p = b) (hss : skp T n b = b) {kd x5 j : Nat} (hk : t / 6 = kd) (ht : t < 18) (h11 : gi s2 q 11 = nI b) (h14 : gi s2 q 14 = nI t) (h17 : gi rs q 17 = nI x5) (hx : x5 ≤ 12) (hw : wAm T b (wen T n b) (lw (if kd = 0 then 1 else if kd = 1 then 6 else 10)) 0 = some j) (hkd : kd < 3) :
    (x5 = 12 → ∃ rs', ch2 κ q s2 1 rs = some (0, rs') ∧ gi rs' q 12 = nI (1 + 8 * b + 4) ∧ Same (phW q t) rs rs') ∧
    (x5 < 12 → ∃ rs', ch2 κ q s2 1 rs = actK κ q b kd j rs' ∧ RR_ rs' q t n T b m L ∧ gi rs' q 17 = nI (x5 + 1) ∧ Same (phW q t) rs rs') := by
  have c12 := (nI_ltk (m := x5) (k := 12) (y := 12) rfl (by omega) (by decide)).2.2.2.2
  unfold ch2
  rw [if_neg (show ¬ (1 : Int32) = 0 by decide), h17, h11, h14, kd6 hk ht]
  simp only [c12]
  constructor
  · intro z
    rw [if_pos z]
    obtain ⟨r1, g1, k1, v1⟩ := r_fails (κ := κ) h.1 (x := 4) (y := nI b) (b := b) (k := 4) rfl rfl
    rw [g1, grd_t (Or.inl rfl)]
    exact ⟨r1, rfl, k1.2.2.2.1, rq_ph v1⟩
  · intro z
    rw [if_neg (by omega), nI_1]
    obtain ⟨h1, w1⟩ := ln_ h (nI (x5 + 1))
    have l1 : gi (ui rs q 17 (nI (x5 + 1))) q 17 = nI (x5 + 1) := by rw [gi_ui, if_pos ⟨rfl, rfl⟩]
    generalize ui rs q 17 (nI (x5 + 1)) = r1 at *
    have kp : ∀ (r r' : AS), Same (rqW q) r r' → gi r q 17 = nI (x5 + 1) → gi r' q 17 = nI (x5 + 1) := fun r r' w e => by rw [(w q 17 (fun z => by unfold rqW at z; omega)).1]; exact e
    have hc : kd = 0 ∨ kd = 1 ∨ kd = 2 := by omega
    rcases hc with rfl | rfl | rfl
    · rw [if_pos (show nI 0 = 0 from rfl)]
      rw [if_pos rfl] at hw
      by_cases w2 : wqB T b (wen T n b) [115, 111, 102, 116] = true
      · obtain ⟨r2, g2, k2, v2⟩ := iw1 (κ := κ) h1 hb (y := 1936680564) rfl rfl w2
        have hj : j = 2 := by
          have : lw 1 = [[98, 114, 101, 97, 107, 115], [97, 116], [115, 111, 102, 116]] := rfl
          rw [this] at hw
          simp only [wAm] at hw
          rw [if_neg (wq_one w2 (by decide)), if_neg (wq_one w2 (by decide)), if_pos w2] at hw
          exact (Option.some.inj hw).symm
        subst hj
        rw [g2, bnd2_t, if_neg (show ¬ (1 : Int32) = 0 by decide)]
        exact ⟨r2, by unfold actK; rw [if_pos rfl, if_pos rfl]; rfl, k2, kp _ _ v2 l1, w1.tr (rq_ph v2)⟩
      · obtain ⟨r2, g2, k2, v2⟩ := iw0 (κ := κ) h1 hb (y := 1936680564) rfl rfl w2
        rw [g2, bnd2_t, if_pos (show (0 : Int32) = 0 from rfl)]
        by_cases w0 : wqB T b (wen T n b) [98, 114, 101, 97, 107, 115] = true
        · obtain ⟨r3, g3, k3, v3⟩ := iw1 (κ := κ) k2 hss (y := 108243466677107) rfl rfl w0
          have hj : j = 0 := by
            have : lw 1 = [[98, 114, 101, 97, 107, 115], [97, 116], [115, 111, 102, 116]] := rfl
            rw [this] at hw
            simp only [wAm] at hw
            rw [if_pos w0] at hw
            exact (Option.some.inj hw).symm
          subst hj
          rw [g3, bnd2_t, if_neg (show ¬ (1 : Int32) = 0 by decide)]
          exact ⟨r3, by unfold actK; rw [if_pos rfl, if_neg (by decide)]; rfl, k3, kp _ _ v3 (kp _ _ v2 l1), (w1.tr (rq_ph v2)).tr (rq_ph v3)⟩
        · obtain ⟨r3, g3, k3, v3⟩ := iw0 (κ := κ) k2 hss (y := 108243466677107) rfl rfl w0
          have hj : j = 1 := by
            have : lw 1 = [[98, 114, 101, 97, 107, 115], [97, 116], [115, 111, 102, 116]] := rfl
            rw [this] at hw
            simp only [wAm] at hw
            rw [if_neg w0] at hw
            by_cases w1' : wqB T b (wen T n b) [97, 116] = true
            · rw [if_pos w1'] at hw
              exact (Option.some.inj hw).symm
            · rw [if_neg w1', if_neg w2] at hw
              cases hw
          subst hj
          rw [g3, bnd2_t, if_pos (show (0 : Int32) = 0 from rfl)]
          exact ⟨r3, by unfold actK; rw [if_pos rfl, if_neg (by decide)]; rfl, k3, kp _ _ v3 (kp _ _ v2 l1), (w1.tr (rq_ph v2)).tr (rq_ph v3)⟩
    · rw [if_neg (show ¬ nI 1 = 0 by decide), if_pos (show nI 1 = 1 from rfl)]
      rw [if_neg (by decide), if_pos rfl] at hw
      have hl : lw 6 = [[112, 114, 101, 115, 115], [102, 111, 108, 100], [116, 117, 114, 110]] := rfl
      rw [hl] at hw
      simp only [wAm] at hw
      simp only [jn_e]
      by_cases w0 : wqB T b (wen T n b) [112, 114, 101, 115, 115] = true
      · obtain ⟨r2, g2, k2, v2⟩ := iw1 (κ := κ) h1 hb (y := 482955588467) rfl rfl w0
        rw [if_pos w0] at hw
        obtain rfl := Option.some.inj hw
        rw [g2, bnd2_t, if_neg (show ¬ (1 : Int32) = 0 by decide)]
        exact ⟨r2, by unfold actK; rw [if_neg (by decide), if_pos rfl]; rfl, k2, kp _ _ v2 l1, w1.tr (rq_ph v2)⟩
      · obtain ⟨r2, g2, k2, v2⟩ := iw0 (κ := κ) h1 hb (y := 482955588467) rfl rfl w0
        rw [if_neg w0] at hw
        rw [g2, bnd2_t, if_pos (show (0 : Int32) = 0 from rfl)]
        by_cases w1' : wqB T b (wen T n b) [102, 111, 108, 100] = true
        · obtain ⟨r3, g3, k3, v3⟩ := iw1 (κ := κ) k2 hss (y := 1718578276) rfl rfl w1'
          rw [if_pos w1'] at hw
          obtain rfl := Option.some.inj hw
          rw [g3, bnd2_t, if_neg (show ¬ (1 : Int32) = 0 by decide)]
          exact ⟨r3, by unfold actK; rw [if_neg (by decide), if_pos rfl]; rfl, k3, kp _ _ v3 (kp _ _ v2 l1), (w1.tr (rq_ph v2)).tr (rq_ph v3)⟩
        · obtain ⟨r3, g3, k3, v3⟩ := iw0 (κ := κ) k2 hss (y := 1718578276) rfl rfl w1'
          rw [if_neg w1'] at hw
          by_cases w2 : wqB T b (wen T n b) [116, 117, 114, 110] = true
          · rw [if_pos w2] at hw
            obtain rfl := Option.some.inj hw
            rw [g3, bnd2_t, if_pos (show (0 : Int32) = 0 from rfl)]
            exact ⟨r3, by unfold actK; rw [if_neg (by decide), if_pos rfl]; rfl, k3, kp _ _ v3 (kp _ _ v2 l1), (w1.tr (rq_ph v2)).tr (rq_ph v3)⟩
          · rw [if_neg w2] at hw
            cases hw
    · rw [if_neg (show ¬ nI 2 = 0 by decide), if_neg (show ¬ nI 2 = 1 by decide)]
      rw [if_neg (by decide), if_neg (by decide)] at hw
      have hl : lw 10 = [[115, 101, 101], [109, 105, 115, 115]] := rfl
      rw [hl] at hw
      simp only [wAm] at hw
      by_cases w0 : wqB T b (wen T n b) [115, 101, 101] = true
      · obtain ⟨r2, g2, k2, v2⟩ := iw1 (κ := κ) h1 hb (y := 7562597) rfl rfl w0
        rw [if_pos w0] at hw
        obtain rfl := Option.some.inj hw
        rw [g2, bnd2_t, if_neg (show ¬ (1 : Int32) = 0 by decide)]
        exact ⟨r2, by unfold actK; rw [if_neg (by decide), if_neg (by decide)]; rfl, k2, kp _ _ v2 l1, w1.tr (rq_ph v2)⟩
      · obtain ⟨r2, g2, k2, v2⟩ := iw0 (κ := κ) h1 hb (y := 7562597) rfl rfl w0
        rw [if_neg w0] at hw
        by_cases w1' : wqB T b (wen T n b) [109, 105, 115, 115] = true
        · rw [if_pos w1'] at hw
          obtain rfl := Option.some.inj hw
          rw [g2, bnd2_t, if_pos (show (0 : Int32) = 0 from rfl)]
          exact ⟨r2, by unfold actK; rw [if_neg (by decide), if_neg (by decide)]; rfl, k2, kp _ _ v2 l1, w1.tr (rq_ph v2)⟩
        · rw [if_neg w1'] at hw
          cases hw
/-- no good word -/
theorem r_ch0 (h : RR_ rs q t n T p m L) {s2 : AS} (h11 : gi s2 q 11 = nI b) : ∃ rs', ch2 κ q s2 0 rs = some (0, rs') ∧ gi rs' q 12 = nI (1 + 8 * b + 0) ∧ Same (phW q t) rs rs' := by
  unfold ch2
  rw [if_pos (show (0 : Int32) = 0 from rfl), h11]
  obtain ⟨r1, g1, k1, v1⟩ := r_fails (κ := κ) h.1 (x := 0) (y := nI b) (b := b) (k := 0) rfl rfl
  rw [g1, grd_t (Or.inl rfl)]
  exact ⟨r1, rfl, k1.2.2.2.1, rq_ph v1⟩
theorem r_here (h : RR_ rs q t n T p m L) (hb : skp T n p = b) {kd x5 : Nat} (hk : t / 6 = kd) (ht : t < 18) (h17 : gi rs q 17 = nI x5) (hx : x5 ≤ 12) (hkd : kd < 3) :
    match wAm T b (wen T n b) (lw (if kd = 0 then 1 else if kd = 1 then 6 else 10)) 0 with
    | none => ∃ rs', f_R_clauseHere κ q rs = some (0, rs') ∧ gi rs' q 12 = nI (1 + 8 * b + 0) ∧ Same (phW q t) rs rs'
    | some j => (x5 = 12 → ∃ rs', f_R_clauseHere κ q rs = some (0, rs') ∧ gi rs' q 12 = nI (1 + 8 * b + 4) ∧ Same (phW q t) rs rs') ∧
      (x5 < 12 → ∃ rs', f_R_clauseHere κ q rs = actK κ q b kd j rs' ∧ RR_ rs' q t n T b m L ∧ gi rs' q 17 = nI (x5 + 1) ∧ Same (phW q t) rs rs') := by
  have hss : skp T n b = b := by rw [← hb]; exact skp_skp h.1.2.2.1
  rw [f_clauseHere_e]
  obtain ⟨r1, g1, k1, v1⟩ := r_see (κ := κ) h.1
  rw [hb] at k1
  have R1 := h.of k1 v1
  rw [g1, bnd2_t, R1.2.1, kd6 hk ht]
  simp only [jn_e]
  have kp : ∀ (r r' : AS), Same (rqW q) r r' → gi r q 17 = nI x5 → gi r' q 17 = nI x5 := fun r r' w e => by rw [(w q 17 (fun z => by unfold rqW at z; omega)).1]; exact e
  have l1 := kp _ _ v1 h17
  have good : ∀ (s : AS) (j : Nat), RR_ s q t n T b m L → Same (rqW q) rs s → gi s q 17 = nI x5 → wAm T b (wen T n b) (lw (if kd = 0 then 1 else if kd = 1 then 6 else 10)) 0 = some j →
      (x5 = 12 → ∃ rs', ch2 κ q r1 1 s = some (0, rs') ∧ gi rs' q 12 = nI (1 + 8 * b + 4) ∧ Same (phW q t) rs rs') ∧
      (x5 < 12 → ∃ rs', ch2 κ q r1 1 s = actK κ q b kd j rs' ∧ RR_ rs' q t n T b m L ∧ gi rs' q 17 = nI (x5 + 1) ∧ Same (phW q t) rs rs') := by
    intro s j hs w hl hw
    obtain ⟨c1, c2⟩ := r_ch2 (κ := κ) hs (s2 := r1) hss hss hk ht R1.1.2.1 R1.2.1 hl hx hw hkd
    refine ⟨fun z => ?_, fun z => ?_⟩
    · obtain ⟨r, a1, a2, a3⟩ := c1 z
      exact ⟨r, a1, a2, (rq_ph w).tr a3⟩
    · obtain ⟨r, a1, a2, a3, a4⟩ := c2 z
      exact ⟨r, a1, a2, a3, (rq_ph w).tr a4⟩
  have bad : ∀ (s : AS), RR_ s q t n T b m L → Same (rqW q) rs s → ∃ rs', ch2 κ q r1 0 s = some (0, rs') ∧ gi rs' q 12 = nI (1 + 8 * b + 0) ∧ Same (phW q t) rs rs' := by
    intro s hs w
    obtain ⟨r, a1, a2, a3⟩ := r_ch0 (κ := κ) hs (s2 := r1) R1.1.2.1
    exact ⟨r, a1, a2, (rq_ph w).tr a3⟩
  have hc : kd = 0 ∨ kd = 1 ∨ kd = 2 := by omega
  rcases hc with rfl | rfl | rfl
  · rw [if_pos (show nI 0 = 0 from rfl)]
    simp only [if_true] at good ⊢
    have hl : lw 1 = [[98, 114, 101, 97, 107, 115], [97, 116], [115, 111, 102, 116]] := rfl
    rw [hl] at good ⊢
    simp only [wAm] at good ⊢
    by_cases w0 : wqB T b (wen T n b) [98, 114, 101, 97, 107, 115] = true
    · obtain ⟨r2, g2, k2, v2⟩ := iw1 (κ := κ) R1 hss (y := 108243466677107) rfl rfl w0
      simp only [if_pos w0] at good ⊢
      rw [g2, bnd2_t, if_neg (show ¬ (1 : Int32) = 0 by decide)]
      exact good r2 0 k2 (v1.tr v2) (kp _ _ v2 l1) rfl
    · obtain ⟨r2, g2, k2, v2⟩ := iw0 (κ := κ) R1 hss (y := 108243466677107) rfl rfl w0
      simp only [if_neg w0] at good ⊢
      rw [g2, bnd2_t, if_pos (show (0 : Int32) = 0 from rfl)]
      by_cases w1 : wqB T b (wen T n b) [97, 116] = true
      · obtain ⟨r3, g3, k3, v3⟩ := iw1 (κ := κ) k2 hss (y := 24948) rfl rfl w1
        simp only [if_pos w1] at good ⊢
        rw [g3, bnd2_t, if_neg (show ¬ (1 : Int32) = 0 by decide)]
        exact good r3 1 k3 ((v1.tr v2).tr v3) (kp _ _ v3 (kp _ _ v2 l1)) rfl
      · obtain ⟨r3, g3, k3, v3⟩ := iw0 (κ := κ) k2 hss (y := 24948) rfl rfl w1
        simp only [if_neg w1] at good ⊢
        rw [g3, bnd2_t, if_pos (show (0 : Int32) = 0 from rfl)]
        by_cases w2 : wqB T b (wen T n b) [115, 111, 102, 116] = true
        · obtain ⟨r4, g4, k4, v4⟩ := iw1 (κ := κ) k3 hss (y := 1936680564) rfl rfl w2
          simp only [if_pos w2] at good ⊢
          rw [g4, bnd2_t, if_neg (show ¬ (1 : Int32) = 0 by decide)]
          exact good r4 2 k4 (((v1.tr v2).tr v3).tr v4) (kp _ _ v4 (kp _ _ v3 (kp _ _ v2 l1))) rfl
        · obtain ⟨r4, g4, k4, v4⟩ := iw0 (κ := κ) k3 hss (y := 1936680564) rfl rfl w2
          simp only [if_neg w2]
          rw [g4, bnd2_t, if_pos (show (0 : Int32) = 0 from rfl)]
          exact bad r4 k4 (((v1.tr v2).tr v3).tr v4)
  · rw [if_neg (show ¬ nI 1 = 0 by decide), if_pos (show nI 1 = 1 from rfl)]
    simp only [if_true, show ((1 : Nat) = 0) = False from by decide, if_false] at good ⊢
    have hl : lw 6 = [[112, 114, 101, 115, 115], [102, 111, 108, 100], [116, 117, 114, 110]] := rfl
    rw [hl] at good ⊢
    simp only [wAm] at good ⊢
    by_cases w0 : wqB T b (wen T n b) [112, 114, 101, 115, 115] = true
    · obtain ⟨r2, g2, k2, v2⟩ := iw1 (κ := κ) R1 hss (y := 482955588467) rfl rfl w0
      simp only [if_pos w0] at good ⊢
      rw [g2, bnd2_t, if_neg (show ¬ (1 : Int32) = 0 by decide)]
      exact good r2 0 k2 (v1.tr v2) (kp _ _ v2 l1) rfl
    · obtain ⟨r2, g2, k2, v2⟩ := iw0 (κ := κ) R1 hss (y := 482955588467) rfl rfl w0
      simp only [if_neg w0] at good ⊢
      rw [g2, bnd2_t, if_pos (show (0 : Int32) = 0 from rfl)]
      by_cases w1 : wqB T b (wen T n b) [102, 111, 108, 100] = true
      · obtain ⟨r3, g3, k3, v3⟩ := iw1 (κ := κ) k2 hss (y := 1718578276) rfl rfl w1
        simp only [if_pos w1] at good ⊢
        rw [g3, bnd2_t, if_neg (show ¬ (1 : Int32) = 0 by decide)]
        exact good r3 1 k3 ((v1.tr v2).tr v3) (kp _ _ v3 (kp _ _ v2 l1)) rfl
      · obtain ⟨r3, g3, k3, v3⟩ := iw0 (κ := κ) k2 hss (y := 1718578276) rfl rfl w1
        simp only [if_neg w1] at good ⊢
        rw [g3, bnd2_t, if_pos (show (0 : Int32) = 0 from rfl)]
        by_cases w2 : wqB T b (wen T n b) [116, 117, 114, 110] = true
        · obtain ⟨r4, g4, k4, v4⟩ := iw1 (κ := κ) k3 hss (y := 1953854062) rfl rfl w2
          simp only [if_pos w2] at good ⊢
          rw [g4, bnd2_t, if_neg (show ¬ (1 : Int32) = 0 by decide)]
          exact good r4 2 k4 (((v1.tr v2).tr v3).tr v4) (kp _ _ v4 (kp _ _ v3 (kp _ _ v2 l1))) rfl
        · obtain ⟨r4, g4, k4, v4⟩ := iw0 (κ := κ) k3 hss (y := 1953854062) rfl rfl w2
          simp only [if_neg w2]
          rw [g4, bnd2_t, if_pos (show (0 : Int32) = 0 from rfl)]
          exact bad r4 k4 (((v1.tr v2).tr v3).tr v4)
  · rw [if_neg (show ¬ nI 2 = 0 by decide), if_neg (show ¬ nI 2 = 1 by decide)]
    simp only [show ((2 : Nat) = 0) = False from by decide, show ((2 : Nat) = 1) = False from by decide, if_false] at good ⊢
    have hl : lw 10 = [[115, 101, 101], [109, 105, 115, 115]] := rfl
    rw [hl] at good ⊢
    simp only [wAm] at good ⊢
    by_cases w0 : wqB T b (wen T n b) [115, 101, 101] = true
    · obtain ⟨r2, g2, k2, v2⟩ := iw1 (κ := κ) R1 hss (y := 7562597) rfl rfl w0
      simp only [if_pos w0] at good ⊢
      rw [g2, bnd2_t, if_neg (show ¬ (1 : Int32) = 0 by decide)]
      exact good r2 0 k2 (v1.tr v2) (kp _ _ v2 l1) rfl
    · obtain ⟨r2, g2, k2, v2⟩ := iw0 (κ := κ) R1 hss (y := 7562597) rfl rfl w0
      simp only [if_neg w0] at good ⊢
      rw [g2, bnd2_t, if_pos (show (0 : Int32) = 0 from rfl)]
      by_cases w1 : wqB T b (wen T n b) [109, 105, 115, 115] = true
      · obtain ⟨r3, g3, k3, v3⟩ := iw1 (κ := κ) k2 hss (y := 1835627379) rfl rfl w1
        simp only [if_pos w1] at good ⊢
        rw [g3, bnd2_t, if_neg (show ¬ (1 : Int32) = 0 by decide)]
        exact good r3 1 k3 ((v1.tr v2).tr v3) (kp _ _ v3 (kp _ _ v2 l1)) rfl
      · obtain ⟨r3, g3, k3, v3⟩ := iw0 (κ := κ) k2 hss (y := 1835627379) rfl rfl w1
        simp only [if_neg w1]
        rw [g3, bnd2_t, if_pos (show (0 : Int32) = 0 from rfl)]
        exact bad r3 k3 ((v1.tr v2).tr v3)
end Here
