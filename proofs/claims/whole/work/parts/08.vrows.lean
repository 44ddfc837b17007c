/-! rows at an ordinary method -/
section VRows
variable {κ : Ko} {M : Mth} {pc ix n : Nat} {Q : Option Value → AS → Prop} {lv : List (Option Value)} {rest : List Value} {st : AS} {q : Nat}
theorem v_iaload {i : Int32} (hd : decode (mC M) pc = .ok (.iaload, 1)) (hl : ly κ q = (50, n)) (hin : vp_in i n) (k : V κ M Q (pc + 1) lv (.int (gi st q i.toNatClampNeg) :: rest) st) : V κ M Q pc lv (.int i :: .ref q :: rest) st := ra_iaload hd (lay_lt hl (by omega)) hl hin k
theorem v_baload {i : Int32} (hd : decode (mC M) pc = .ok (.baload, 1)) (hl : ly κ q = (52, n)) (hin : vp_in i n) (k : V κ M Q (pc + 1) lv (.int (gi st q i.toNatClampNeg) :: rest) st) : V κ M Q pc lv (.int i :: .ref q :: rest) st := ra_baload hd (lay_lt hl (by omega)) hl hin k
theorem v_zaload {i : Int32} (hd : decode (mC M) pc = .ok (.baload, 1)) (hl : ly κ q = (53, n)) (hin : vp_in i n) (k : V κ M Q (pc + 1) lv (.int (gi st q i.toNatClampNeg) :: rest) st) : V κ M Q pc lv (.int i :: .ref q :: rest) st := ra_zaload hd (lay_lt hl (by omega)) hl hin k
theorem v_laload {i : Int32} (hd : decode (mC M) pc = .ok (.laload, 1)) (hl : ly κ q = (51, n)) (hin : vp_in i n) (k : V κ M Q (pc + 1) lv (.long (gl st q i.toNatClampNeg) :: rest) st) : V κ M Q pc lv (.int i :: .ref q :: rest) st := ra_laload hd (lay_lt hl (by omega)) hl hin k
theorem v_iastore {i x : Int32} (hd : decode (mC M) pc = .ok (.iastore, 1)) (hl : ly κ q = (50, n)) (hin : vp_in i n) (k : V κ M Q (pc + 1) lv rest (ui st q i.toNatClampNeg x)) : V κ M Q pc lv (.int x :: .int i :: .ref q :: rest) st := ra_iastore hd (lay_lt hl (by omega)) hl hin k
theorem v_bastore {i x : Int32} (hd : decode (mC M) pc = .ok (.bastore, 1)) (hl : ly κ q = (52, n)) (hin : vp_in i n) (k : V κ M Q (pc + 1) lv rest (ui st q i.toNatClampNeg (vp_nar .byte x))) : V κ M Q pc lv (.int x :: .int i :: .ref q :: rest) st := ra_bastore hd (lay_lt hl (by omega)) hl hin k
theorem v_zastore {i x : Int32} (hd : decode (mC M) pc = .ok (.bastore, 1)) (hl : ly κ q = (53, n)) (hin : vp_in i n) (k : V κ M Q (pc + 1) lv rest (ui st q i.toNatClampNeg (vp_nar .boolean x))) : V κ M Q pc lv (.int x :: .int i :: .ref q :: rest) st := ra_zastore hd (lay_lt hl (by omega)) hl hin k
theorem v_lastore {i : Int32} {x : Int64} (hd : decode (mC M) pc = .ok (.lastore, 1)) (hl : ly κ q = (51, n)) (hin : vp_in i n) (k : V κ M Q (pc + 1) lv rest (ul st q i.toNatClampNeg x)) : V κ M Q pc lv (.long x :: .int i :: .ref q :: rest) st := ra_lastore hd (lay_lt hl (by omega)) hl hin k
theorem v_aaload {ak r : Nat} {i : Int32} {Cn : String} (hd : decode (mC M) pc = .ok (.aaload, 1)) (hl : ly κ q = (ak + 50, n)) (ha : 4 ≤ ak ∧ ak < 10) (ht : (tyl (kt κ))[ak]? = some (kA (kt κ) (ak + 50), .object Cn)) (hin : vp_in i n) (hr : gr st q i.toNatClampNeg = some r) (k : V κ M Q (pc + 1) lv (.ref r :: rest) st) : V κ M Q pc lv (.int i :: .ref q :: rest) st := ra_aaload hd (lay_lt hl (by omega)) hl ha.1 ht hin (by rw [hr]; rfl) k
theorem v_alen {ak : Nat} {v : Int32} {ty : FieldType} (hd : decode (mC M) pc = .ok (.arraylength, 1)) (hl : ly κ q = (ak + 50, n)) (ha : ak < 10) (ht : (tyl (kt κ))[ak]? = some (kA (kt κ) (ak + 50), ty)) (hv : nI n = v) (k : V κ M Q (pc + 1) lv (.int v :: rest) st) : V κ M Q pc lv (.ref q :: rest) st := ra_alen hd (lay_lt hl (by omega)) hl ht hv k
theorem v_copy {a b n0 n1 : Nat} {x : Int32} (hd : decode (mC M) pc = .ok (.invokestatic ix, 3)) (hw : Cond.methodLink (mY M).cls ix arraycopyName ∈ Tg ∧ Cond.native arraycopyName ∈ Tg ∧ Cond.static arraycopyName ∈ Tg ∧ Cond.initialized "java/lang/System" ∈ Tg) (hl : ly κ a = (50, n0)) (hl2 : ly κ b = (50, n1)) (hx0 : ¬ x < 0) (h0 : x.toNatClampNeg ≤ n0) (h1 : x.toNatClampNeg ≤ n1) (hfr : 1 ≤ (rmOf M).frames) (hlo : (rest.map fun v => v.category).sum + (nativeFrameWords "java/lang/System" "arraycopy" 5 + 11) ≤ (rmOf M).locals) (k : V κ M Q (pc + 3) lv rest (cpi st a b x.toNatClampNeg)) : V κ M Q pc lv (.int x :: .int 0 :: .ref b :: .int 0 :: .ref a :: rest) st := ra_copy hd hw (lay_lt hl (by omega)) (lay_lt hl2 (by omega)) hl hl2 hx0 h0 h1 hfr hlo k
theorem v_get {ci j : Nat} {v : Value} {Cn : String} {Tt : u_T} {ty : Nat → FieldType} (hC : ClsOK ci n Cn Tt ty) (hd : decode (mC M) pc = .ok (.getfield ix, 3)) (hl : ly κ q = (ci, n)) (hc : ci < 50) (hj : j < n) (hw : Cond.fieldLink (mY M).cls ix (Tt j).1 (Tt j).2.1 (Tt j).2.2.1 ∈ Tg) (hv : fvl (kt κ) st ci q j = v) (k : V κ M Q (pc + 3) lv (v :: rest) st) : V κ M Q pc lv (.ref q :: rest) st := ra_get hC hd (lay_lt hl (by omega)) hl hc hj hw hv k
theorem fvl_set_i {κ : Kp} {c j : Nat} {x : Int32} (h : ft c j = 0) (i : Nat) : fvl κ (ui st q j x) c q i = if i = j then .int x else fvl κ st c q i := by
  by_cases e : i = j
  · subst e
    rw [if_pos rfl]
    unfold fvl
    rw [h]
    simp [gi, ui]
  · rw [if_neg e]
    unfold fvl
    rw [gi_eq]
    unfold upd
    rw [if_neg e]
    rfl
theorem fvl_set_l {κ : Kp} {c j : Nat} {x : Int64} (h : ft c j = 1) (i : Nat) : fvl κ (ul st q j x) c q i = if i = j then .long x else fvl κ st c q i := by
  by_cases e : i = j
  · subst e
    rw [if_pos rfl]
    unfold fvl
    rw [h]
    simp [gl, ul]
  · rw [if_neg e]
    unfold fvl
    rw [gl_eq]
    unfold vp_updL
    rw [if_neg e]
    rfl
theorem fvl_set_r {κ : Kp} {c j : Nat} {x : Option Nat} (h : ft c j = 2 ∨ (2 < ft c j ∧ kF κ = false)) (i : Nat) : fvl κ (ur st q j x) c q i = if i = j then va_rf x else fvl κ st c q i := by
  by_cases e : i = j
  · subst e
    rw [if_pos rfl]
    unfold fvl
    rcases h with h | ⟨h, h2⟩
    · rw [h]; simp [gr, ur]
    · obtain ⟨d, hd⟩ : ∃ d, ft c i = d + 3 := ⟨ft c i - 3, by omega⟩
      rw [hd]
      simp [h2, gr, ur]
  · rw [if_neg e]
    unfold fvl
    rw [gr_eq]
    unfold va_up
    rw [if_neg e]
    rfl
theorem v_put_i {ci j : Nat} {x : Int32} {Cn : String} {Tt : u_T} {ty : Nat → FieldType} (hC : ClsOK ci n Cn Tt ty) (hd : decode (mC M) pc = .ok (.putfield ix, 3)) (hl : ly κ q = (ci, n)) (hc : ci < 50) (hj : j < n) (hw : Cond.fieldLink (mY M).cls ix (Tt j).1 (Tt j).2.1 (Tt j).2.2.1 ∈ Tg) (hf : (Tt j).2.2.2 = false) (hk : ft ci j = 0) (hn : narrow (ty j) (.int x) = .int x) (hfit : fits (ty j) (.int x) = true) (k : V κ M Q (pc + 3) lv rest (ui st q j x)) : V κ M Q pc lv (.int x :: .ref q :: rest) st := ra_put hC hd (lay_lt hl (by omega)) hl hc hj hw hf hn hfit cellv_ui (fvl_set_i hk) k
theorem v_put_l {ci j : Nat} {x : Int64} {Cn : String} {Tt : u_T} {ty : Nat → FieldType} (hC : ClsOK ci n Cn Tt ty) (hd : decode (mC M) pc = .ok (.putfield ix, 3)) (hl : ly κ q = (ci, n)) (hc : ci < 50) (hj : j < n) (hw : Cond.fieldLink (mY M).cls ix (Tt j).1 (Tt j).2.1 (Tt j).2.2.1 ∈ Tg) (hf : (Tt j).2.2.2 = false) (hk : ft ci j = 1) (hn : narrow (ty j) (.long x) = .long x) (hfit : fits (ty j) (.long x) = true) (k : V κ M Q (pc + 3) lv rest (ul st q j x)) : V κ M Q pc lv (.long x :: .ref q :: rest) st := ra_put hC hd (lay_lt hl (by omega)) hl hc hj hw hf hn hfit cellv_ul (fvl_set_l hk) k
theorem v_put_r {ci j r : Nat} {Cn : String} {Tt : u_T} {ty : Nat → FieldType} (hC : ClsOK ci n Cn Tt ty) (hd : decode (mC M) pc = .ok (.putfield ix, 3)) (hl : ly κ q = (ci, n)) (hc : ci < 50) (hj : j < n) (hw : Cond.fieldLink (mY M).cls ix (Tt j).1 (Tt j).2.1 (Tt j).2.2.1 ∈ Tg) (hf : (Tt j).2.2.2 = false) (hk : ft ci j = 2) (hn : narrow (ty j) (.ref r) = .ref r) (hfit : fits (ty j) (.ref r) = true) (k : V κ M Q (pc + 3) lv rest (ur st q j (some r))) : V κ M Q pc lv (.ref r :: .ref q :: rest) st := ra_put hC hd (lay_lt hl (by omega)) hl hc hj hw hf hn hfit cellv_ur (fvl_set_r (Or.inl hk)) k
end VRows
theorem ck0 : ClsOK 0 4 RX0 TX0 tyX0 := ⟨rfl, inX0, tyX0_ok, nmX0⟩
theorem ck1 : ClsOK 1 4 RX1 TX1 tyX1 := ⟨rfl, inX1, tyX1_ok, nmX1⟩
theorem ck2 : ClsOK 2 5 RX2 TX2 tyX2 := ⟨rfl, inX2, tyX2_ok, nmX2⟩
theorem ck3 : ClsOK 3 7 RX3 TX3 tyX3 := ⟨rfl, inX3, tyX3_ok, nmX3⟩
theorem ck4 : ClsOK 4 5 RX4 TX4 tyX4 := ⟨rfl, inX4, tyX4_ok, nmX4⟩
theorem ck5 : ClsOK 5 3 RX5 TX5 tyX5 := ⟨rfl, inX5, tyX5_ok, nmX5⟩
theorem ck6 : ClsOK 6 7 RX6 TX6 tyX6 := ⟨rfl, inX6, tyX6_ok, nmX6⟩
theorem ck7 : ClsOK 7 5 RX7 TX7 tyX7 := ⟨rfl, inX7, tyX7_ok, nmX7⟩
theorem ck8 : ClsOK 8 14 RX8 TX8 tyX8 := ⟨rfl, inX8, tyX8_ok, nmX8⟩
theorem ck9 : ClsOK 9 4 RX9 TX9 tyX9 := ⟨rfl, inX9, tyX9_ok, nmX9⟩
theorem ck10 : ClsOK 10 7 RX10 TX10 tyX10 := ⟨rfl, inX10, tyX10_ok, nmX10⟩
theorem ck11 : ClsOK 11 15 RX11 TX11 tyX11 := ⟨rfl, inX11, tyX11_ok, nmX11⟩
theorem ck12 : ClsOK 12 36 RX12 TX12 tyX12 := ⟨rfl, inX12, tyX12_ok, nmX12⟩
/-! switches -/
theorem tsw_all {lo hi : Int} {x : Int32} {P : Prop} (h1 : (x.toInt < lo ∨ hi < x.toInt) → P) (h2 : ¬ x.toInt < lo → ¬ hi < x.toInt → P) : P := by
  by_cases a : x.toInt < lo
  · exact h1 (Or.inl a)
  · by_cases b : hi < x.toInt
    · exact h1 (Or.inr b)
    · exact h2 a b
theorem tsw_ne {x a : Int32} {n : Int} (h : ¬ x = a) (ha : a.toInt = n) : ¬ x.toInt = n := fun e => h (Int32.toInt_inj.mp (by rw [e, ha]))
