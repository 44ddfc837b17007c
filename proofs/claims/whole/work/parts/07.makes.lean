/-! making of cells (constructors), copying, literals' members -/
def Fresh (κ : Kp) (d : Nat) (st : AS) : Prop := ∀ q, kB κ + d ≤ q → gi st q = (fun _ => 0) ∧ gl st q = (fun _ => 0) ∧ gr st q = (fun _ => none)
theorem Fresh.up {κ : Kp} {d d2 : Nat} {st : AS} (h : Fresh κ d st) (hd : d ≤ d2) : Fresh κ d2 st := fun q hq => h q (by omega)
theorem Fresh.ui {κ : Kp} {d q j : Nat} {x : Int32} {st : AS} (h : Fresh κ d st) (hq : q < kB κ + d) : Fresh κ d (ui st q j x) := fun p hp => by
  obtain ⟨a, b, e⟩ := h p hp
  exact ⟨by rw [gi_ne (by omega)]; exact a, b, e⟩
theorem Fresh.ur {κ : Kp} {d q j : Nat} {x : Option Nat} {st : AS} (h : Fresh κ d st) (hq : q < kB κ + d) : Fresh κ d (ur st q j x) := fun p hp => by
  obtain ⟨a, b, e⟩ := h p hp
  exact ⟨a, b, by rw [gr_ne (by omega)]; exact e⟩
theorem wl_succ {κ : Kp} {d : Nat} {st : AS} : wl κ (d + 1) st = wl κ d st ++ [(kB κ + d, cellv κ st (kB κ + d))] := by
  unfold wl
  rw [List.range_succ, List.map_append]
  rfl
section Makes
variable {κ : Kp} {M : Mth} {d' d c sl pc ix n : Nat} {Q : Option Value → AS → Prop} {lv : List (Option Value)} {rest : List Value} {st : AS}
theorem push_P {H H1 : Heap} (hz : H.size = kB κ + d) (hP : va_P (kD κ) vwCl (wl κ d st) H) (o1 : ∀ q, q < H.size → H1[q]? = H[q]?) (hn : va_at (kD κ) vwCl (kB κ + d, cellv κ st (kB κ + d)) H1) : va_P (kD κ) vwCl (wl κ (d + 1) st) H1 := by
  rw [wl_succ]
  refine (hP.kept fun k x hx => o1 x.1 ((hP k x hx).lt)).app fun k x hx => ?_
  have hk : k < 1 := (List.getElem?_eq_some_iff.mp hx).1
  rw [show k = 0 by omega] at hx
  cases hx
  exact hn
theorem push_S {s : State} {H H1 : Heap} {locs : List Loc} (hS : va_S (kQ κ) s.heap H locs) (z1 : H1.size = H.size + 1) (o1 : ∀ q, q < H.size → H1[q]? = H[q]?) : va_S (kQ κ) s.heap H1 locs :=
  ⟨Nat.le_trans hS.1 (by omega), fun x h1 h2 => (o1 x (Nat.lt_of_lt_of_le h1 hS.1)).trans (hS.2.1 x h1 h2), hS.2.2⟩
theorem ra_new {ci : Nat} {Cn : String} {Tt : u_T} {ty : Nat → FieldType} (hC : ClsOK ci n Cn Tt ty) (hd : decode (mC M) pc = .ok (.new ix, 3)) (hw : Cond.classLink (mY M).cls ix Cn ∈ Tg ∧ Cond.instantiable Cn n ∈ Tg ∧ Cond.initialized Cn ∈ Tg) (hl : lay κ (kB κ + d) = (ci, n)) (hc : ci < 50) (hF : ∀ j, j < n → defaultValue (ty j) = fvl κ st ci (kB κ + d) j) (hf : c + 1 ≤ (rmOf M).cells ∧ sl + n ≤ (rmOf M).slots)
    (k : VA κ M d' Q (d + 1) (c + 1) (sl + n) (pc + 3) lv (.ref (kB κ + d) :: rest) st) : VA κ M d' Q d c sl pc lv rest st := by
  intro p e s m args below meth c0 H locs ls hc0 hz hP hS hll
  have hc1 := hc0
  obtain ⟨hx, hb, hml, hown, hts, hK, hret, hlk, hB, hnm⟩ := hc0
  have hKn := hK.1.1 ci _ hC.1
  refine W.newcK hx hb hown (hts _ hw.1) (hts _ hw.2.1) (hts _ hw.2.2) rfl hd hf.1 hf.2 hKn.2.1 hz fun H1 kC hkC e1 z1 o1 => ?_
  rw [← hz] at o1
  refine k p e s m args below meth c0 H1 locs ls hc1 z1 (push_P hz hP o1 ?_) (push_S hS (by rw [z1, hz]) o1) hll
  rw [cellv_obj hl hc]
  refine ⟨_, hC.1, (u_born ty hts hC.2.1 hKn hkC e1 hC.2.2.1).to fun j hj => ?_⟩
  rw [hF j hj]
  simp [vp_V, List.getD_eq_getElem?_getD, mr_get hj]
theorem ra_newa {ak : Nat} {at_ : ArrayType} {x : Int32} (hd : decode (mC M) pc = .ok (.newarray at_, 2)) (ht : (tyl κ)[ak]? = some (kA κ (ak + 50), newarray.typeOf at_)) (hw : Cond.arrayClass (newarray.typeOf at_) ∈ Tg) (hl : lay κ (kB κ + d) = (ak + 50, n)) (hx0 : ¬ x < 0) (hxn : x.toNatClampNeg = n) (hby : n * componentBytes (newarray.typeOf at_) ≤ 536870912) (hF : vp_cell (kA κ (ak + 50)) (match cellv κ st (kB κ + d) with | .inl a => a.2 | .inr _ => (0, .inl fun _ => 0)) = arrV (kA κ (ak + 50)) n (fun _ => defaultValue (newarray.typeOf at_))) (hf : c + 1 ≤ (rmOf M).cells ∧ sl + n ≤ (rmOf M).slots)
    (k : VA κ M d' Q (d + 1) (c + 1) (sl + n) (pc + 2) lv (.ref (kB κ + d) :: rest) st) : VA κ M d' Q d c sl pc lv (.int x :: rest) st := by
  intro p e s m args below meth c0 H locs ls hc0 hz hP hS hll
  have hc1 := hc0
  obtain ⟨hx, hb, hml, hown, hts, hK, hret, hlk, hB, hnm⟩ := hc0
  refine va_newaK hx hb (hts _ hw) rfl hd rfl hx0 hxn hby hf.1 hf.2 hz fun H1 cA e1 z1 o1 hAr hNm => ?_
  rw [← hz] at o1
  have hcA : cA = kA κ (ak + 50) := by
    have h2 := (hK.1.2 ak _ ht).2
    have h3 : s.vm.findClass ("[" ++ (newarray.typeOf at_).toString) = some (kA κ (ak + 50)) := by
      revert h2
      cases at_ <;> exact fun h => h
    exact Option.some.inj (hNm.symm.trans h3)
  refine k p e s m args below meth c0 H1 locs ls hc1 z1 (push_P hz hP o1 ?_) (push_S hS (by rw [z1, hz]) o1) hll
  have h2 : cellv κ st (kB κ + d) = .inl (kA κ (ak + 50), (match cellv κ st (kB κ + d) with | .inl a => a.2 | .inr _ => (0, .inl fun _ => 0))) := by
    unfold cellv
    rw [hl, if_neg (by simp)]
  rw [h2]
  show H1[kB κ + d]? = some (vp_cell _ _)
  rw [hF, ← hcA]
  exact e1
theorem ra_newq {ak : Nat} {x : Int32} {Cn : String} (hd : decode (mC M) pc = .ok (.anewarray ix, 3)) (ht : (tyl κ)[ak]? = some (kA κ (ak + 50), .object Cn)) (hw : Cond.classLink (mY M).cls ix Cn ∈ Tg) (ho : ∀ U, KN κ U → va_AO Cn U) (hl : lay κ (kB κ + d) = (ak + 50, n)) (ha : 4 ≤ ak) (hx0 : ¬ x < 0) (hxn : x.toNatClampNeg = n) (hby : n * 4 ≤ 536870912) (hF : gr st (kB κ + d) = fun _ => none) (hf : c + 1 ≤ (rmOf M).cells ∧ sl + n ≤ (rmOf M).slots)
    (k : VA κ M d' Q (d + 1) (c + 1) (sl + n) (pc + 3) lv (.ref (kB κ + d) :: rest) st) : VA κ M d' Q d c sl pc lv (.int x :: rest) st := by
  intro p e s m args below meth c0 H locs ls hc0 hz hP hS hll
  have hc1 := hc0
  obtain ⟨hx, hb, hml, hown, hts, hK, hret, hlk, hB, hnm⟩ := hc0
  subst hxn
  refine W.anew hx hb hown (hts _ hw) (va_AO.use (ho s hK)) rfl hd rfl hx0 hby hf.1 hf.2 fun cA kA' comp f1 f2 f3 f4 => ?_
  generalize hH1 : H.push ({ cls := cA, slots := Array.replicate x.toNatClampNeg .null, vm := .none } : Cell) = H1
  have z1 : H1.size = H.size + 1 := by rw [← hH1, Array.size_push]
  have e1 : H1[H.size]? = some (arrV cA x.toNatClampNeg (fun _ => .null)) := by rw [← hH1, Array.getElem?_push_size, ← arrV_new]
  have o1 : ∀ q : Nat, q < H.size → H1[q]? = H[q]? := fun q hq => by rw [← hH1, Array.getElem?_push, if_neg (Nat.ne_of_lt hq)]
  have hcA : cA = kA κ (ak + 50) := by
    obtain ⟨_, _, -, -, -, h4⟩ := (hK.1.2 ak _ ht).2
    exact Option.some.inj (f1.symm.trans h4)
  rw [hz]
  refine k p e s m args below meth c0 H1 locs ls hc1 (by rw [z1, hz]; rfl) (push_P hz hP o1 ?_) (push_S hS z1 o1) hll
  rw [cellv_q hl (by omega), hF]
  show H1[kB κ + d]? = some (vp_cell _ _)
  rw [vp_cell_q, ← hz, ← hcA]
  exact e1
end Makes
/-- a row copied from its beginning on -/
def cpi (st : AS) (a b n : Nat) : AS := (fun q j => if q = b ∧ j < n then st.1 a j else st.1 q j, st.2.1, st.2.2)
theorem cpi_eq {st : AS} {a b n : Nat} : gi (cpi st a b n) b = va_cpy (gi st a) (gi st b) 0 0 n := by
  funext j
  simp [gi, cpi, va_cpy]
theorem cpi_ne {st : AS} {a b n p : Nat} (h : p ≠ b) : gi (cpi st a b n) p = gi st p := by
  funext j
  simp [gi, cpi, h]
section Copy
variable {κ : Kp} {M : Mth} {d' d c sl pc ix n : Nat} {Q : Option Value → AS → Prop} {lv : List (Option Value)} {rest : List Value} {st : AS}
theorem ra_copy {a b n0 n1 : Nat} {x : Int32} (hd : decode (mC M) pc = .ok (.invokestatic ix, 3)) (hw : Cond.methodLink (mY M).cls ix arraycopyName ∈ Tg ∧ Cond.native arraycopyName ∈ Tg ∧ Cond.static arraycopyName ∈ Tg ∧ Cond.initialized "java/lang/System" ∈ Tg) (hD : kB κ ≤ a ∧ a < kB κ + d) (hD2 : kB κ ≤ b ∧ b < kB κ + d) (hl : lay κ a = (50, n0)) (hl2 : lay κ b = (50, n1)) (hx0 : ¬ x < 0) (h0 : x.toNatClampNeg ≤ n0) (h1 : x.toNatClampNeg ≤ n1)
    (hfr : 1 ≤ (rmOf M).frames) (hlo : (rest.map fun v => v.category).sum + (nativeFrameWords "java/lang/System" "arraycopy" 5 + 11) ≤ (rmOf M).locals)
    (k : VA κ M d' Q d c sl (pc + 3) lv rest (cpi st a b x.toNatClampNeg)) : VA κ M d' Q d c sl pc lv (.int x :: .int 0 :: .ref b :: .int 0 :: .ref a :: rest) st := by
  intro p e s m args below meth c0 H locs ls hc0 hz hP hS hll
  have hc1 := hc0
  obtain ⟨hx, hb, hml, hown, hts, hK, hret, hlk, hB, hnm⟩ := hc0
  have he0 := wl_get (κ := κ) (d := d) (st := st) hD.1 hD.2
  have he1 := wl_get (κ := κ) (d := d) (st := st) hD2.1 hD2.2
  rw [cellv_i hl (Or.inl rfl)] at he0
  rw [cellv_i hl2 (Or.inl rfl)] at he1
  have hca : H[a]? = some (vp_cell (kA κ 50) (n0, .inl (gi st a))) := hP _ _ he0
  have hcb : H[b]? = some (vp_cell (kA κ 50) (n1, .inl (gi st b))) := hP _ _ he1
  obtain ⟨-, k0, hk0, cm0, hkk0⟩ := (hK.1.2 0 _ rfl).1 n0 (fun j => .int (gi st a j))
  obtain ⟨-, k1, hk1, cm1, hkk1⟩ := (hK.1.2 0 _ rfl).1 n1 (fun j => .int (gi st b j))
  have nn : x.toInt = (x.toNatClampNeg : Int) := by
    have hz0 : (0 : Int) ≤ x.toInt := by
      have := Int32.not_lt.mp hx0
      simpa using Int32.le_iff_toInt_le.mp this
    show x.toInt = ((x.toInt.toNat : Nat) : Int)
    omega
  have c00 : (0 : Int32).toNatClampNeg = 0 := by decide
  intro T hT X
  obtain ⟨vm', X', step⟩ := X.arraycopy hx hown (hts _ hw.1) (hts _ hw.2.1) (hts _ hw.2.2.1) (hts _ hw.2.2.2) (src := a) (dst := b) (cs := vp_cell (kA κ 50) (n0, .inl (gi st a))) (cd := vp_cell (kA κ 50) (n1, .inl (gi st b))) (srcPos := 0) (destPos := 0) (n := x) (by rw [hT]; exact hca) (by rw [hT]; exact hcb)
    (fun _ h => by cases h) (fun _ h => by cases h) (fun h => by cases h) (fun h => by cases h) hk0 hk1 hkk0 hkk1 (by simp [refKind]) (by decide) (by decide) hx0
    (by rw [nn]; show ¬ _ > ((arrV (kA κ 50) n0 (fun j => .int (gi st a j))).slots.size : Int); rw [arrV_size]; show ¬ ((0 : Int) + _ > _); omega)
    (by rw [nn]; show ¬ _ > ((arrV (kA κ 50) n1 (fun j => .int (gi st b j))).slots.size : Int); rw [arrV_size]; show ¬ ((0 : Int) + _ > _); omega)
    (fun vm₁ _ i hi => by
      have e : (vp_cell (kA κ 50) (n0, .inl (gi st a))).slots.getD ((0 : Int32).toNatClampNeg + i) .null = .int (gi st a i) := by
        show (arrV (kA κ 50) n0 (fun j => .int (gi st a j))).slots.getD _ _ = _
        rw [c00, Array.getD_eq_getD_getElem?, arrV_read _ _ (by omega)]
        simp
      refine ⟨?_, ?_⟩
      · rw [e]; rfl
      · rw [e]; exact trivial)
    (g := F0 m pc ls (.int x :: .int 0 :: .ref b :: .int 0 :: .ref a :: rest)) rfl (by rw [hml]; exact hll.1) (rest := rest) rfl (by rw [hb]; exact hd) hfr (by show 2 * 0 + _ + _ ≤ _; omega)
  have e1 : copied (vp_cell (kA κ 50) (n0, .inl (gi st a))) (vp_cell (kA κ 50) (n1, .inl (gi st b))) 0 0 x = vp_cell (kA κ 50) (n1, .inl (va_cpy (gi st a) (gi st b) (0 : Int32).toNatClampNeg (0 : Int32).toNatClampNeg x.toNatClampNeg)) := va_copied (fun z => .int z) (kA κ 50) (kA κ 50) (gi st a) (gi st b) (by rw [c00]; omega)
  rw [e1, c00, ← cpi_eq] at X' step
  have hlt : b < H.size := by omega
  have oq : ∀ q : Nat, q ≠ b → (H.setIfInBounds b (vp_cell (kA κ 50) (n1, .inl (gi (cpi st a b x.toNatClampNeg) b))))[q]? = H[q]? := fun q hq => by simp [Array.getElem?_setIfInBounds, Ne.symm hq]
  have hP' := hP.set (e := .inl (kA κ 50, n1, .inl (gi (cpi st a b x.toNatClampNeg) b))) wl_D he1 (show (H.setIfInBounds b (vp_cell (kA κ 50) (n1, .inl (gi (cpi st a b x.toNatClampNeg) b))))[b]? = some _ by simp [Array.getElem?_setIfInBounds, hlt]) oq
  rw [← cellv_i hl2 (Or.inl rfl), wl_set hD2.1 (fun q hq => cellv_congr (cpi_ne hq) rfl rfl)] at hP'
  obtain ⟨t, a1, b1⟩ := k p e s m args below meth c0 _ _ ls hc1 (by simp [hz]) hP' ⟨by simp; exact hS.1, fun q g1 g2 => by
      rw [oq q (fun e => g2 (by rw [e]; exact hD2.1))]
      exact hS.2.1 q g1 g2, fun q hq => by
      rcases List.mem_append.mp hq with h | h
      · exact hS.2.2 q h
      · obtain ⟨z, -, hz⟩ := List.mem_map.mp h
        rw [← hz]
        exact hD2.1⟩ hll _ (by rw [← hT]; rfl) X'
  exact ⟨t, step t a1, b1⟩
end Copy
