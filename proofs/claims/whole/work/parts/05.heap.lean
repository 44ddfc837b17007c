/-! cells: what a place holds, what a write leaves -/
theorem gi_ne {st : AS} {q j : Nat} {x : Int32} {p : Nat} (h : p ≠ q) : gi (ui st q j x) p = gi st p := by funext k; simp [gi, ui, h]
theorem gi_eq {st : AS} {q j : Nat} {x : Int32} : gi (ui st q j x) q = upd (gi st q) j x := by funext k; simp [gi, ui, upd]
theorem gl_ne {st : AS} {q j : Nat} {x : Int64} {p : Nat} (h : p ≠ q) : gl (ul st q j x) p = gl st p := by funext k; simp [gl, ul, h]
theorem gl_eq {st : AS} {q j : Nat} {x : Int64} : gl (ul st q j x) q = vp_updL (gl st q) j x := by funext k; simp [gl, ul, vp_updL]
theorem gr_ne {st : AS} {q j : Nat} {x : Option Nat} {p : Nat} (h : p ≠ q) : gr (ur st q j x) p = gr st p := by funext k; simp [gr, ur, h]
theorem gr_eq {st : AS} {q j : Nat} {x : Option Nat} : gr (ur st q j x) q = va_up (gr st q) j x := by funext k; simp [gr, ur, va_up]
theorem gl_ui {st : AS} {q j : Nat} {x : Int32} {p : Nat} : gl (ui st q j x) p = gl st p := rfl
theorem gr_ui {st : AS} {q j : Nat} {x : Int32} {p : Nat} : gr (ui st q j x) p = gr st p := rfl
theorem gi_ul {st : AS} {q j : Nat} {x : Int64} {p : Nat} : gi (ul st q j x) p = gi st p := rfl
theorem gr_ul {st : AS} {q j : Nat} {x : Int64} {p : Nat} : gr (ul st q j x) p = gr st p := rfl
theorem gi_ur {st : AS} {q j : Nat} {x : Option Nat} {p : Nat} : gi (ur st q j x) p = gi st p := rfl
theorem gl_ur {st : AS} {q j : Nat} {x : Option Nat} {p : Nat} : gl (ur st q j x) p = gl st p := rfl
theorem fvl_congr {κ : Kp} {st st' : AS} {c q : Nat} (h1 : gi st' q = gi st q) (h2 : gl st' q = gl st q) (h3 : gr st' q = gr st q) : fvl κ st' c q = fvl κ st c q := by
  funext j
  unfold fvl
  rw [h1, h2, h3]
theorem cellv_congr {κ : Kp} {st st' : AS} {q : Nat} (h1 : gi st' q = gi st q) (h2 : gl st' q = gl st q) (h3 : gr st' q = gr st q) : cellv κ st' q = cellv κ st q := by
  unfold cellv
  rw [fvl_congr h1 h2 h3, h1, h2, h3]
theorem cellv_ui {κ : Kp} {st : AS} {q j : Nat} {x : Int32} : ∀ p, p ≠ q → cellv κ (ui st q j x) p = cellv κ st p := fun _ h => cellv_congr (gi_ne h) rfl rfl
theorem cellv_ul {κ : Kp} {st : AS} {q j : Nat} {x : Int64} : ∀ p, p ≠ q → cellv κ (ul st q j x) p = cellv κ st p := fun _ h => cellv_congr rfl (gl_ne h) rfl
theorem cellv_ur {κ : Kp} {st : AS} {q j : Nat} {x : Option Nat} : ∀ p, p ≠ q → cellv κ (ur st q j x) p = cellv κ st p := fun _ h => cellv_congr rfl rfl (gr_ne h)
theorem cellv_obj {κ : Kp} {st : AS} {q c n : Nat} (hl : lay κ q = (c, n)) (hc : c < 50) : cellv κ st q = .inr (c, (List.range n).map (fvl κ st c q)) := by
  unfold cellv
  rw [hl]
  simp [hc]
theorem cellv_i {κ : Kp} {st : AS} {q c n : Nat} (hl : lay κ q = (c, n)) (hc : c = 50 ∨ c = 52 ∨ c = 53) : cellv κ st q = .inl (kA κ c, n, .inl (gi st q)) := by
  unfold cellv
  rw [hl]
  rcases hc with rfl | rfl | rfl <;> simp
theorem cellv_l {κ : Kp} {st : AS} {q n : Nat} (hl : lay κ q = (51, n)) : cellv κ st q = .inl (kA κ 51, n, .inr (.inl (gl st q))) := by
  unfold cellv
  rw [hl]
  simp
theorem cellv_q {κ : Kp} {st : AS} {q c n : Nat} (hl : lay κ q = (c, n)) (hc : 54 ≤ c) : cellv κ st q = .inl (kA κ c, n, .inr (.inr (.inr (.inr (gr st q))))) := by
  unfold cellv
  rw [hl]
  simp [show ¬ c < 50 by omega, show ¬ c = 51 by omega, show ¬ c < 54 by omega]
theorem mr_get {f : Nat → Value} {n j : Nat} (h : j < n) : ((List.range n).map f)[j]? = some (f j) := by
  rw [List.getElem?_map, List.getElem?_range h]; rfl
theorem mr_set {f g : Nat → Value} {n j : Nat} {v : Value} (h : ∀ i, g i = if i = j then v else f i) : (List.range n).map g = ((List.range n).map f).set j v := by
  apply List.ext_getElem?
  intro i
  rw [List.getElem?_set, List.length_map, List.length_range]
  by_cases hi : i < n
  · rw [mr_get hi, mr_get hi, h i]
    by_cases e : j = i
    · subst e; simp [hi]
    · rw [if_neg e, if_neg (Ne.symm e)]
  · rw [List.getElem?_eq_none (by simpa using Nat.le_of_not_lt hi), List.getElem?_eq_none (by simpa using Nat.le_of_not_lt hi)]
    by_cases e : j = i
    · subst e; simp [hi]
    · rw [if_neg e]
theorem lay_in {κ : Kp} {q c n : Nat} (h : lay κ q = (c, n)) (hc : c < 100) : kB κ ≤ q ∧ q < kB κ + TOT := by
  unfold lay at h
  by_cases hb : kB κ ≤ q
  · rw [if_pos hb] at h
    refine ⟨hb, ?_⟩
    by_cases ht : q - kB κ < TOT
    · omega
    · rw [List.getD_eq_getElem?_getD, List.getElem?_eq_none (by have : layL.length = TOT := by decide +kernel
                                                                omega)] at h
      cases h
      omega
  · rw [if_neg hb] at h
    cases h
    omega
/-- what a class's table says: its place in vwCl, its words, its types -/
def ClsOK (c n : Nat) (Cn : String) (Tt : u_T) (ty : Nat → FieldType) : Prop :=
  vwCl[c]? = some (Cn, Tt, n) ∧ (∀ w ∈ u_ws Cn Tt n, w ∈ Tg) ∧ (∀ k, k < n → parseFieldDescriptor (Tt k).2.2.1 = some (ty k)) ∧ (∀ a, a < n → ∀ b, b < n → a ≠ b → (Tt a).2.1 ≠ (Tt b).2.1)
section Heap
variable {κ : Kp} {M : Mth} {d' d c sl pc : Nat} {Q : Option Value → AS → Prop} {lv : List (Option Value)} {rest : List Value} {st : AS}
/-- a field is read -/
theorem ra_get {q ci n j ix : Nat} {v : Value} {Cn : String} {Tt : u_T} {ty : Nat → FieldType} (hC : ClsOK ci n Cn Tt ty) (hd : decode (mC M) pc = .ok (.getfield ix, 3)) (hD : kB κ ≤ q ∧ q < kB κ + d) (hl : lay κ q = (ci, n)) (hc : ci < 50) (hj : j < n) (hw : Cond.fieldLink (mY M).cls ix (Tt j).1 (Tt j).2.1 (Tt j).2.2.1 ∈ Tg) (hv : fvl κ st ci q j = v)
    (k : VA κ M d' Q d c sl (pc + 3) lv (v :: rest) st) : VA κ M d' Q d c sl pc lv (.ref q :: rest) st := by
  intro p e s m args below meth c0 H locs ls hc0 hz hP hS hll
  have hc1 := hc0
  obtain ⟨hx, hb, hml, hown, hts, hK, hret, hlk, hB, hnm⟩ := hc0
  have he := wl_get (κ := κ) (d := d) (st := st) hD.1 hD.2
  rw [cellv_obj hl hc] at he
  exact va_get (ref := (Tt j).1) hx hb hts hC.2.1 hown hK.1 hP (q - kB κ) he hC.1 j hj (hts _ hw) (fun _ h => h) (v := v) (by rw [mr_get hj, hv]) hd (k p e s m args below meth c0 H locs ls hc1 hz hP hS hll)
/-- a field is written -/
theorem ra_put {q ci n j ix : Nat} {st' : AS} {v : Value} {Cn : String} {Tt : u_T} {ty : Nat → FieldType} (hC : ClsOK ci n Cn Tt ty) (hd : decode (mC M) pc = .ok (.putfield ix, 3)) (hD : kB κ ≤ q ∧ q < kB κ + d) (hl : lay κ q = (ci, n)) (hc : ci < 50) (hj : j < n) (hw : Cond.fieldLink (mY M).cls ix (Tt j).1 (Tt j).2.1 (Tt j).2.2.1 ∈ Tg) (hf : (Tt j).2.2.2 = false) (hn : narrow (ty j) v = v) (hfit : fits (ty j) v = true)
    (h1 : ∀ p, p ≠ q → cellv κ st' p = cellv κ st p) (h2 : ∀ i, fvl κ st' ci q i = if i = j then v else fvl κ st ci q i)
    (k : VA κ M d' Q d c sl (pc + 3) lv rest st') : VA κ M d' Q d c sl pc lv (v :: .ref q :: rest) st := by
  intro p e s m args below meth c0 H locs ls hc0 hz hP hS hll
  have hc1 := hc0
  obtain ⟨hx, hb, hml, hown, hts, hK, hret, hlk, hB, hnm⟩ := hc0
  have he := wl_get (κ := κ) (d := d) (st := st) hD.1 hD.2
  have e2 : cellv κ st' q = .inr (ci, ((List.range n).map (fvl κ st ci q)).set j v) := by rw [cellv_obj hl hc, mr_set h2]
  rw [cellv_obj hl hc] at he
  have hlt : q < H.size := by omega
  obtain ⟨r, g1, cell, q1, q2, q3, q4⟩ := hP (q - kB κ) _ he
  have hr : r = (Cn, Tt, n) := Option.some.inj (g1.symm.trans hC.1)
  subst hr
  have hap := va_apart (own := (mY M).cls) hts hC.2.1 ty hC.2.2.1 hC.2.2.2 hK.1 hC.1
  obtain ⟨hSl, hfc, kC, hkC, hkind⟩ := hK.1.1 ci _ hC.1
  obtain ⟨cf, kf, fi, f, hi, hsl⟩ := hSl j hj
  have hlay := hts _ (hC.2.1 _ (u_in_lay hj))
  unfold u_lay at hlay
  rw [if_neg (by rw [hf]; decide)] at hlay
  have hst := (u_facts hfc hkC (u_lays hts hC.2.1 hj) hi).1
  have h6 := u_store hfc hkC hkind hlay hi (hC.2.2.1 j hj) hn hfit
  refine W.putK hx hb (f := f) ⟨hown, hts _ hw, ⟨_, _, _, hi⟩, hst⟩ (by rw [q2]; exact h6) q1 q3 (by rw [hsl]; exact k2_hasslot (q4 j hj)) rfl rfl hd fun H' e1 e2' e3 => ?_
  rw [hsl] at e1 ⊢
  have hP' := hP.set (e := .inr (ci, ((List.range n).map (fvl κ st ci q)).set j v)) wl_D he ⟨_, hC.1, t_OB.to (V := updV (vp_V ((List.range n).map (fvl κ st ci q))) j v) ⟨_, e1, q2, q3, t_set q4 hap hj v⟩ (fun i _ => vp_updV_set (by simpa using hj) v i)⟩ e3
  rw [← e2, wl_set hD.1 h1] at hP'
  exact k p e s m args below meth c0 H' _ ls hc1 (by rw [e2', hz]) hP' (hS.put e2' e3 hD.1) hll
/-- a final field is written, in a constructor -/
theorem ra_putF {q ci n j ix : Nat} {st' : AS} {v : Value} {Cn : String} {Tt : u_T} {ty : Nat → FieldType} (hC : ClsOK ci n Cn Tt ty) (hd : decode (mC M) pc = .ok (.putfield ix, 3)) (hD : kB κ ≤ q ∧ q < kB κ + d) (hl : lay κ q = (ci, n)) (hc : ci < 50) (hj : j < n) (hw : Cond.fieldLink (mY M).cls ix (Tt j).1 (Tt j).2.1 (Tt j).2.2.1 ∈ Tg) (hf : (Tt j).2.2.2 = true) (hin : (mY M).name = "<init>") (hdc : (Tt j).1 = (mY M).cls) (hn : narrow (ty j) v = v) (hfit : fits (ty j) v = true)
    (h1 : ∀ p, p ≠ q → cellv κ st' p = cellv κ st p) (h2 : ∀ i, fvl κ st' ci q i = if i = j then v else fvl κ st ci q i)
    (k : VA κ M d' Q d c sl (pc + 3) lv rest st') : VA κ M d' Q d c sl pc lv (v :: .ref q :: rest) st := by
  intro p e s m args below meth c0 H locs ls hc0 hz hP hS hll
  have hc1 := hc0
  obtain ⟨hx, hb, hml, hown, hts, hK, hret, hlk, hB, hnm⟩ := hc0
  have he := wl_get (κ := κ) (d := d) (st := st) hD.1 hD.2
  have e2 : cellv κ st' q = .inr (ci, ((List.range n).map (fvl κ st ci q)).set j v) := by rw [cellv_obj hl hc, mr_set h2]
  rw [cellv_obj hl hc] at he
  obtain ⟨r, g1, cell, q1, q2, q3, q4⟩ := hP (q - kB κ) _ he
  have hr : r = (Cn, Tt, n) := Option.some.inj (g1.symm.trans hC.1)
  subst hr
  have hap := va_apart (own := (mY M).cls) hts hC.2.1 ty hC.2.2.1 hC.2.2.2 hK.1 hC.1
  obtain ⟨hSl, hfc, kC, hkC, hkind⟩ := hK.1.1 ci _ hC.1
  obtain ⟨cf, kf, fi, f, hi, hsl⟩ := hSl j hj
  have hlay := hts _ (hC.2.1 _ (u_in_lay hj))
  unfold u_lay at hlay
  rw [if_pos hf] at hlay
  have hst := (u_facts hfc hkC (u_lays hts hC.2.1 hj) hi).1
  have hcf : m.cls = cf := by
    obtain ⟨_, _, c', _, _, _, -, -, hf', -, -, -, hown2, -⟩ := Cond.laysFinal_spec hlay
    have e1 : c' = cf := by have := hi.symm.trans hf'; simp at this; exact this.1.symm
    rw [hdc] at hown2
    rw [← e1]; exact Option.some.inj (hown.symm.trans hown2)
  have h6 := u_fits hfc hkC hkind (Or.inr hlay) hi (hC.2.2.1 j hj) hn hfit
  refine W.putFinK hx hb hown (hts _ hw) hi hst hcf (hnm.trans hin) (by rw [q2]; exact h6) q1 q3 (by rw [hsl]; exact k2_hasslot (q4 j hj)) rfl rfl hd fun H' e1 e2' e3 => ?_
  rw [hsl] at e1 ⊢
  have hP' := hP.set (e := .inr (ci, ((List.range n).map (fvl κ st ci q)).set j v)) wl_D he ⟨_, hC.1, t_OB.to (V := updV (vp_V ((List.range n).map (fvl κ st ci q))) j v) ⟨_, e1, q2, q3, t_set q4 hap hj v⟩ (fun i _ => vp_updV_set (by simpa using hj) v i)⟩ e3
  rw [← e2, wl_set hD.1 h1] at hP'
  exact k p e s m args below meth c0 H' _ ls hc1 (by rw [e2', hz]) hP' (hS.put e2' e3 hD.1) hll
theorem ra_iaload {q n : Nat} {i : Int32} (hd : decode (mC M) pc = .ok (.iaload, 1)) (hD : kB κ ≤ q ∧ q < kB κ + d) (hl : lay κ q = (50, n)) (hin : vp_in i n)
    (k : VA κ M d' Q d c sl (pc + 1) lv (.int (gi st q i.toNatClampNeg) :: rest) st) : VA κ M d' Q d c sl pc lv (.int i :: .ref q :: rest) st := by
  intro p e s m args below meth c0 H locs ls hc0 hz hP hS hll
  have hc1 := hc0
  obtain ⟨hx, hb, hml, hown, hts, hK, hret, hlk, hB, hnm⟩ := hc0
  have he := wl_get (κ := κ) (d := d) (st := st) hD.1 hD.2
  rw [cellv_i hl (Or.inl rfl)] at he
  exact va_iald hx hb hK.1 hP (q - kB κ) 0 he rfl hin hd (k p e s m args below meth c0 H locs ls hc1 hz hP hS hll)
theorem ra_baload {q n : Nat} {i : Int32} (hd : decode (mC M) pc = .ok (.baload, 1)) (hD : kB κ ≤ q ∧ q < kB κ + d) (hl : lay κ q = (52, n)) (hin : vp_in i n)
    (k : VA κ M d' Q d c sl (pc + 1) lv (.int (gi st q i.toNatClampNeg) :: rest) st) : VA κ M d' Q d c sl pc lv (.int i :: .ref q :: rest) st := by
  intro p e s m args below meth c0 H locs ls hc0 hz hP hS hll
  have hc1 := hc0
  obtain ⟨hx, hb, hml, hown, hts, hK, hret, hlk, hB, hnm⟩ := hc0
  have he := wl_get (κ := κ) (d := d) (st := st) hD.1 hD.2
  rw [cellv_i hl (Or.inr (Or.inl rfl))] at he
  exact va_bald hx hb hK.1 hP (q - kB κ) 2 he rfl hin hd (k p e s m args below meth c0 H locs ls hc1 hz hP hS hll)
theorem ra_zaload {q n : Nat} {i : Int32} (hd : decode (mC M) pc = .ok (.baload, 1)) (hD : kB κ ≤ q ∧ q < kB κ + d) (hl : lay κ q = (53, n)) (hin : vp_in i n)
    (k : VA κ M d' Q d c sl (pc + 1) lv (.int (gi st q i.toNatClampNeg) :: rest) st) : VA κ M d' Q d c sl pc lv (.int i :: .ref q :: rest) st := by
  intro p e s m args below meth c0 H locs ls hc0 hz hP hS hll
  have hc1 := hc0
  obtain ⟨hx, hb, hml, hown, hts, hK, hret, hlk, hB, hnm⟩ := hc0
  have he := wl_get (κ := κ) (d := d) (st := st) hD.1 hD.2
  rw [cellv_i hl (Or.inr (Or.inr rfl))] at he
  exact va_zald hx hb hK.1 hP (q - kB κ) 3 he rfl hin hd (k p e s m args below meth c0 H locs ls hc1 hz hP hS hll)
theorem ra_laload {q n : Nat} {i : Int32} (hd : decode (mC M) pc = .ok (.laload, 1)) (hD : kB κ ≤ q ∧ q < kB κ + d) (hl : lay κ q = (51, n)) (hin : vp_in i n)
    (k : VA κ M d' Q d c sl (pc + 1) lv (.long (gl st q i.toNatClampNeg) :: rest) st) : VA κ M d' Q d c sl pc lv (.int i :: .ref q :: rest) st := by
  intro p e s m args below meth c0 H locs ls hc0 hz hP hS hll
  have hc1 := hc0
  obtain ⟨hx, hb, hml, hown, hts, hK, hret, hlk, hB, hnm⟩ := hc0
  have he := wl_get (κ := κ) (d := d) (st := st) hD.1 hD.2
  rw [cellv_l hl] at he
  exact va_lald hx hb hK.1 hP (q - kB κ) 1 he rfl hin hd (k p e s m args below meth c0 H locs ls hc1 hz hP hS hll)
theorem ra_aaload {q n ak : Nat} {i : Int32} {Cn : String} {v : Value} (hd : decode (mC M) pc = .ok (.aaload, 1)) (hD : kB κ ≤ q ∧ q < kB κ + d) (hl : lay κ q = (ak + 50, n)) (ha : 4 ≤ ak) (ht : (tyl κ)[ak]? = some (kA κ (ak + 50), .object Cn)) (hin : vp_in i n) (hv : va_rf (gr st q i.toNatClampNeg) = v)
    (k : VA κ M d' Q d c sl (pc + 1) lv (v :: rest) st) : VA κ M d' Q d c sl pc lv (.int i :: .ref q :: rest) st := by
  intro p e s m args below meth c0 H locs ls hc0 hz hP hS hll
  have hc1 := hc0
  obtain ⟨hx, hb, hml, hown, hts, hK, hret, hlk, hB, hnm⟩ := hc0
  have he := wl_get (κ := κ) (d := d) (st := st) hD.1 hD.2
  rw [cellv_q hl (by omega)] at he
  subst hv
  exact va_aldq hx hb hK.1 hP (q - kB κ) ak he ht hin hd (k p e s m args below meth c0 H locs ls hc1 hz hP hS hll)
theorem ra_iastore {q n : Nat} {i x : Int32} (hd : decode (mC M) pc = .ok (.iastore, 1)) (hD : kB κ ≤ q ∧ q < kB κ + d) (hl : lay κ q = (50, n)) (hin : vp_in i n)
    (k : VA κ M d' Q d c sl (pc + 1) lv rest (ui st q i.toNatClampNeg x)) : VA κ M d' Q d c sl pc lv (.int x :: .int i :: .ref q :: rest) st := by
  intro p e s m args below meth c0 H locs ls hc0 hz hP hS hll
  have hc1 := hc0
  obtain ⟨hx, hb, hml, hown, hts, hK, hret, hlk, hB, hnm⟩ := hc0
  have he := wl_get (κ := κ) (d := d) (st := st) hD.1 hD.2
  rw [cellv_i hl (Or.inl rfl)] at he
  have hlt : q < H.size := by omega
  refine W.iast hx hb (hP _ _ he) ((hK.1.2 0 _ rfl).1 n (fun j => .int (gi st q j))) (fun z => by cases z) (by show ¬ (i < 0 ∨ (arrV _ _ _).slots.size ≤ _); rw [arrV_size]; exact hin) rfl rfl hd fun H1 e1 z oq => ?_
  have hP' := hP.set (e := .inl (kA κ 50, n, .inl (upd (gi st q) i.toNatClampNeg x))) wl_D he (by
    show H1[q]? = some (vp_cell _ _)
    rw [e1, vp_cell_i, vp_cell_i, arrV_store]
    congr 2
    funext j
    unfold updV upd
    by_cases h : j = i.toNatClampNeg <;> simp [h]) oq
  rw [← gi_eq, ← cellv_i hl (Or.inl rfl), wl_set hD.1 cellv_ui] at hP'
  exact k p e s m args below meth c0 H1 _ ls hc1 (by rw [z, hz]) hP' (hS.put z oq hD.1) hll
theorem ra_bastore {q n : Nat} {i x : Int32} (hd : decode (mC M) pc = .ok (.bastore, 1)) (hD : kB κ ≤ q ∧ q < kB κ + d) (hl : lay κ q = (52, n)) (hin : vp_in i n)
    (k : VA κ M d' Q d c sl (pc + 1) lv rest (ui st q i.toNatClampNeg (vp_nar .byte x))) : VA κ M d' Q d c sl pc lv (.int x :: .int i :: .ref q :: rest) st := by
  intro p e s m args below meth c0 H locs ls hc0 hz hP hS hll
  have hc1 := hc0
  obtain ⟨hx, hb, hml, hown, hts, hK, hret, hlk, hB, hnm⟩ := hc0
  have he := wl_get (κ := κ) (d := d) (st := st) hD.1 hD.2
  rw [cellv_i hl (Or.inr (Or.inl rfl))] at he
  refine W.bast hx hb (hP _ _ he) ((hK.1.2 2 _ rfl).1 n (fun j => .int (gi st q j))) (fun z => by cases z) (by show ¬ (i < 0 ∨ (arrV _ _ _).slots.size ≤ _); rw [arrV_size]; exact hin) rfl rfl hd fun H1 e1 z oq => ?_
  have hP' := hP.set (e := .inl (kA κ 52, n, .inl (upd (gi st q) i.toNatClampNeg (vp_nar .byte x)))) wl_D he (by
    show H1[q]? = some (vp_cell _ _)
    rw [e1, vp_cell_i, vp_cell_i, arrV_store]
    congr 2
    funext j
    unfold updV upd
    by_cases h : j = i.toNatClampNeg <;> simp [h] <;> rfl) oq
  rw [← gi_eq, ← cellv_i hl (Or.inr (Or.inl rfl)), wl_set hD.1 cellv_ui] at hP'
  exact k p e s m args below meth c0 H1 _ ls hc1 (by rw [z, hz]) hP' (hS.put z oq hD.1) hll
theorem ra_zastore {q n : Nat} {i x : Int32} (hd : decode (mC M) pc = .ok (.bastore, 1)) (hD : kB κ ≤ q ∧ q < kB κ + d) (hl : lay κ q = (53, n)) (hin : vp_in i n)
    (k : VA κ M d' Q d c sl (pc + 1) lv rest (ui st q i.toNatClampNeg (vp_nar .boolean x))) : VA κ M d' Q d c sl pc lv (.int x :: .int i :: .ref q :: rest) st := by
  intro p e s m args below meth c0 H locs ls hc0 hz hP hS hll
  have hc1 := hc0
  obtain ⟨hx, hb, hml, hown, hts, hK, hret, hlk, hB, hnm⟩ := hc0
  have he := wl_get (κ := κ) (d := d) (st := st) hD.1 hD.2
  rw [cellv_i hl (Or.inr (Or.inr rfl))] at he
  refine W.zast hx hb (hP _ _ he) ((hK.1.2 3 _ rfl).1 n (fun j => .int (gi st q j))) (fun z => by cases z) (by show ¬ (i < 0 ∨ (arrV _ _ _).slots.size ≤ _); rw [arrV_size]; exact hin) rfl rfl hd fun H1 e1 z oq => ?_
  have hP' := hP.set (e := .inl (kA κ 53, n, .inl (upd (gi st q) i.toNatClampNeg (vp_nar .boolean x)))) wl_D he (by
    show H1[q]? = some (vp_cell _ _)
    rw [e1, vp_cell_i, vp_cell_i, arrV_store]
    congr 2
    funext j
    unfold updV upd
    by_cases h : j = i.toNatClampNeg <;> simp [h] <;> rfl) oq
  rw [← gi_eq, ← cellv_i hl (Or.inr (Or.inr rfl)), wl_set hD.1 cellv_ui] at hP'
  exact k p e s m args below meth c0 H1 _ ls hc1 (by rw [z, hz]) hP' (hS.put z oq hD.1) hll
theorem ra_lastore {q n : Nat} {i : Int32} {x : Int64} (hd : decode (mC M) pc = .ok (.lastore, 1)) (hD : kB κ ≤ q ∧ q < kB κ + d) (hl : lay κ q = (51, n)) (hin : vp_in i n)
    (k : VA κ M d' Q d c sl (pc + 1) lv rest (ul st q i.toNatClampNeg x)) : VA κ M d' Q d c sl pc lv (.long x :: .int i :: .ref q :: rest) st := by
  intro p e s m args below meth c0 H locs ls hc0 hz hP hS hll
  have hc1 := hc0
  obtain ⟨hx, hb, hml, hown, hts, hK, hret, hlk, hB, hnm⟩ := hc0
  have he := wl_get (κ := κ) (d := d) (st := st) hD.1 hD.2
  rw [cellv_l hl] at he
  refine W.last hx hb (hP _ _ he) ((hK.1.2 1 _ rfl).1 n (fun j => .long (gl st q j))) (fun z => by cases z) (by show ¬ (i < 0 ∨ (arrV _ _ _).slots.size ≤ _); rw [arrV_size]; exact hin) rfl rfl hd fun H1 e1 z oq => ?_
  have hP' := hP.set (e := .inl (kA κ 51, n, .inr (.inl (vp_updL (gl st q) i.toNatClampNeg x)))) wl_D he (by
    show H1[q]? = some (vp_cell _ _)
    rw [e1, vp_cell_l, vp_cell_l, arrV_store]
    congr 2
    funext j
    unfold updV vp_updL
    by_cases h : j = i.toNatClampNeg <;> simp [h]) oq
  rw [← gl_eq, ← cellv_l hl, wl_set hD.1 cellv_ul] at hP'
  exact k p e s m args below meth c0 H1 _ ls hc1 (by rw [z, hz]) hP' (hS.put z oq hD.1) hll
theorem ra_aastore {q n ak v ci n2 : Nat} {i : Int32} {Cn : String} {Tt : u_T} {ty : Nat → FieldType} (hC : ClsOK ci n2 Cn Tt ty) (hd : decode (mC M) pc = .ok (.aastore, 1)) (hD : kB κ ≤ q ∧ q < kB κ + d) (hD2 : kB κ ≤ v ∧ v < kB κ + d) (hl : lay κ q = (ak + 50, n)) (ha : 4 ≤ ak) (hl2 : lay κ v = (ci, n2)) (hc : ci < 50) (ht : (tyl κ)[ak]? = some (kA κ (ak + 50), .object Cn)) (hin : vp_in i n)
    (k : VA κ M d' Q d c sl (pc + 1) lv rest (ur st q i.toNatClampNeg (some v))) : VA κ M d' Q d c sl pc lv (.ref v :: .int i :: .ref q :: rest) st := by
  intro p e s m args below meth c0 H locs ls hc0 hz hP hS hll
  have hc1 := hc0
  obtain ⟨hx, hb, hml, hown, hts, hK, hret, hlk, hB, hnm⟩ := hc0
  have he := wl_get (κ := κ) (d := d) (st := st) hD.1 hD.2
  have hv := wl_get (κ := κ) (d := d) (st := st) hD2.1 hD2.2
  rw [cellv_q hl (by omega)] at he
  rw [cellv_obj hl2 hc] at hv
  have hlt : i.toNatClampNeg < n := Nat.not_le.mp fun z => hin (Or.inr z)
  have h0 : ¬ i < 0 := fun z => hin (Or.inl z)
  obtain ⟨r', hr', cellV, g1, g2, g3, -⟩ := hP _ _ hv
  have hcls := (hK.1.1 ci _ hC.1).2
  obtain ⟨kA', comp, k1, k2, k3, -⟩ := (hK.1.2 ak _ ht).2
  have hcc : (kD κ).1 ci = comp := Option.some.inj (hcls.1.symm.trans k3)
  obtain ⟨kC, hkC, -⟩ := hcls.2
  refine W.aast hx hb (hP _ _ he) (fun _ z => by cases z) (fun z => by cases z) k1 k2 rfl (hcc ▸ hkC) ⟨h0, by show _ < (arrV _ _ _).slots.size; rw [arrV_size]; exact hlt⟩ g1 (fun _ z => by rw [g3] at z; cases z) (by rw [g2]; exact hkC) (by rw [g2, ← hcc]; exact va_assign hcls) rfl rfl hd fun H1 e1 z oq => ?_
  have hP' := hP.set (e := .inl (kA κ (ak + 50), n, .inr (.inr (.inr (.inr (va_up (gr st q) i.toNatClampNeg (some v))))))) wl_D he (by
    show H1[q]? = some (vp_cell _ _)
    rw [e1, vp_cell_q, vp_cell_q, arrV_store]
    congr 2
    funext j
    unfold updV va_up
    by_cases h : j = i.toNatClampNeg <;> simp [h, va_rf]) oq
  rw [← gr_eq, ← cellv_q hl (by omega), wl_set hD.1 cellv_ur] at hP'
  exact k p e s m args below meth c0 H1 _ ls hc1 (by rw [z, hz]) hP' (hS.put z oq hD.1) hll
theorem ra_alen {q n ak : Nat} {v : Int32} {ty : FieldType} (hd : decode (mC M) pc = .ok (.arraylength, 1)) (hD : kB κ ≤ q ∧ q < kB κ + d) (hl : lay κ q = (ak + 50, n)) (ht : (tyl κ)[ak]? = some (kA κ (ak + 50), ty)) (hv : nI n = v)
    (k : VA κ M d' Q d c sl (pc + 1) lv (.int v :: rest) st) : VA κ M d' Q d c sl pc lv (.ref q :: rest) st := by
  intro p e s m args below meth c0 H locs ls hc0 hz hP hS hll
  have hc1 := hc0
  obtain ⟨hx, hb, hml, hown, hts, hK, hret, hlk, hB, hnm⟩ := hc0
  have he := wl_get (κ := κ) (d := d) (st := st) hD.1 hD.2
  unfold cellv at he
  rw [hl] at he
  rw [if_neg (by simp)] at he
  exact va_alen hx hb hK.1 hP (q - kB κ) ak he ht hv hd (k p e s m args below meth c0 H locs ls hc1 hz hP hS hll)
/-- the law's script -/
theorem ra_sld {i : Int32} (hd : decode (mC M) pc = .ok (.iaload, 1)) (hin : vp_in i (kX κ).2.1)
    (k : VA κ M d' Q d c sl (pc + 1) lv (.int ((kX κ).2.2 i.toNatClampNeg) :: rest) st) : VA κ M d' Q d c sl pc lv (.int i :: .ref (kX κ).1 :: rest) st := by
  intro p e s m args below meth c0 H locs ls hc0 hz hP hS hll
  have hc1 := hc0
  obtain ⟨hx, hb, hml, hown, hts, hK, hret, hlk, hB, hnm⟩ := hc0
  have hE := hK.2.2.1
  exact va_sld hx hb hE.1 (by have := hE.2.1; omega) (by have := hE.2.1; show ¬ kB κ ≤ _; omega) hS hin hd (k p e s m args below meth c0 H locs ls hc1 hz hP hS hll)
theorem ra_slen (hd : decode (mC M) pc = .ok (.arraylength, 1))
    (k : VA κ M d' Q d c sl (pc + 1) lv (.int (nI (kX κ).2.1) :: rest) st) : VA κ M d' Q d c sl pc lv (.ref (kX κ).1 :: rest) st := by
  intro p e s m args below meth c0 H locs ls hc0 hz hP hS hll
  have hc1 := hc0
  obtain ⟨hx, hb, hml, hown, hts, hK, hret, hlk, hB, hnm⟩ := hc0
  have hE := hK.2.2.1
  exact va_slen hx hb hE.1 (by have := hE.2.1; omega) (by have := hE.2.1; show ¬ kB κ ≤ _; omega) hS hd (k p e s m args below meth c0 H locs ls hc1 hz hP hS hll)
end Heap
