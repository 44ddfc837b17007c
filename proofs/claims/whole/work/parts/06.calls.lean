/-! calls -/
theorem PcX_blind {κ : Kp} {d : Nat} {vs : List Value} {st : AS} : FrameBlind (PcX κ d vs st) := by
  intro a U g mk h
  obtain ⟨h1, h2, h3, h4⟩ := h
  exact ⟨h1, h2, h3, KN.same (u := U) (U := U.calling g mk a) rfl rfl h4⟩
def KM (M : Mth) (n : Nat) : Prop := Cond.code (mY M) (mC M) (mL M) (mR M) ∈ Tg ∧ Cond.initialized (mY M).cls ∈ Tg ∧ (mY M).cls ≠ "java/lang/invoke/MethodHandle" ∧ (mY M).cls ≠ "java/lang/invoke/VarHandle" ∧ (parseMethodDescriptor (mY M).desc).map (fun d => d.parameters.length) = some n
def KV (own : String) (ix : Nat) (M : Mth) (n : Nat) : Prop := KM M n ∧ Cond.methodLink own ix (mY M) ∈ Tg ∧ Cond.instanceMethod (mY M) ∈ Tg ∧ Cond.selects (mY M).cls (mY M) (mY M) ∈ Tg
def KVN (own : String) (ix : Nat) (M : Mth) (host : String) (n : Nat) : Prop := KM M n ∧ Cond.methodLinkNest own ix (mY M) host ∈ lw_tbl.filter isNest ∧ Cond.instanceMethod (mY M) ∈ Tg ∧ Cond.selects (mY M).cls (mY M) (mY M) ∈ Tg
def KSt (own : String) (ix : Nat) (M : Mth) (n : Nat) : Prop := KM M n ∧ Cond.methodLink own ix (mY M) ∈ Tg ∧ Cond.static (mY M) ∈ Tg
def KSN (own : String) (ix : Nat) (M : Mth) (host : String) (n : Nat) : Prop := KM M n ∧ Cond.methodLinkNest own ix (mY M) host ∈ lw_tbl.filter isNest ∧ Cond.static (mY M) ∈ Tg
def KI (own : String) (ix : Nat) (M : Mth) (n : Nat) : Prop := KM M n ∧ Cond.methodLink own ix (mY M) ∈ Tg ∧ Cond.instanceMethod (mY M) ∈ Tg ∧ (mY M).name = "<init>" ∧ mR M = none
def KIN (own : String) (ix : Nat) (M : Mth) (host : String) (n : Nat) : Prop := KM M n ∧ Cond.methodLinkNest own ix (mY M) host ∈ lw_tbl.filter isNest ∧ Cond.instanceMethod (mY M) ∈ Tg ∧ (mY M).name = "<init>" ∧ mR M = none
def RmOK (M' M : Mth) : Prop := (rmOf M').frames + 1 ≤ (rmOf M).frames ∧ 8 + (mL M' + 11) + (rmOf M').locals ≤ (rmOf M).locals
theorem good_ws {M : Mth} {n : Nat} (h : KM M n) : GoodIn Tg (wsOf M) := by
  intro w hw
  rcases List.mem_cons.mp hw with rfl | hw
  · exact ⟨h.1, good_of_word (Tg_good h.1)⟩
  · exact ⟨hw, good_of_word (Tg_good hw)⟩
section Calls
variable {κ : Kp} {M M' : Mth} {d' d d2 c sl pc ix n : Nat} {Q : Option Value → AS → Prop} {lv lv2 : List (Option Value)} {As rest stk : List Value} {st : AS}
theorem vgo {p : Program} {e : Env} {R : Room} {s : State} {m : MethodId} {args : Array Value} {below : List Frame} {meth : Method} {c0 : Code} {H : Heap} {locs : List Loc} {mc ms : Nat} {ls : Array Slot} {a : Array Value} {Qf : State → Prop} {Q' : Option Value → AS → Prop}
    (hr : va_Run p (kL κ) e R s m args below meth c0 H locs c sl mc ms (F0 m pc ls stk) rest (QcX κ d2 Q' a) (kQ κ)) (hS : va_S (kQ κ) s.heap H locs) (hB : kB κ ≤ s.heap.size) (hz : H.size = kB κ + d) (hdd : d ≤ d2)
    (kk : ∀ (v : Option Value) (st' : AS) (H1 : Heap) (locs1 : List Loc), H1.size = kB κ + d2 → va_P (kD κ) vwCl (wl κ d2 st') H1 → va_S (kQ κ) s.heap H1 locs1 → Q' v st' → W p (kL κ) e R s m args below meth c0 H1 locs1 (c + mc) (sl + ms) Qf (F0 m (pc + 3) ls (v.toList ++ rest))) : W p (kL κ) e R s m args below meth c0 H locs c sl Qf (F0 m pc ls stk) := by
  intro T hT X
  obtain ⟨v, st₀, t, T', L, h0, X', hL, e1, e2, ⟨v', st', hv, hz', hP', hQ, hfr⟩, st⟩ := hr T hT X
  cases hv
  obtain ⟨t2, a1, b1⟩ := kk v st' T'.heap (locs ++ L) (by rw [e1]; exact hz') (by rw [e1]; exact hP') ⟨by rw [e1, hz']; have := hS.1; omega, fun q h1 h2 => by
      have h3 : q < kB κ := Nat.lt_of_not_le h2
      rw [e1, hfr q h3, h0]
      exact hS.2.1 q h1 h2, fun q hq => by
      rcases List.mem_append.mp hq with h | h
      · exact hS.2.2 q h
      · exact hL q h⟩ hQ T' rfl X'
  exact ⟨t2, st t2 a1, b1⟩
theorem pcx_at {s : State} {H : Heap} {locs : List Loc} {vs : List Value} (hB : kB κ ≤ s.heap.size) (hz : H.size = kB κ + d) (hP : va_P (kD κ) vwCl (wl κ d st) H) (hS : va_S (kQ κ) s.heap H locs) (hK : KN κ s) (U : State) (hU : U.heap = H) (hW : s.WarmedH U.vm) : PcX κ d vs st vs.toArray U :=
  ⟨rfl, by rw [hU]; exact hz, by rw [hU]; exact hP, hK.warm hW hB (fun q hq => by rw [hU]; exact hS.2.1 q (by omega) (by show ¬ kB κ ≤ q; omega))⟩
theorem recv_at {s : State} {H : Heap} {q ci nn : Nat} {Cn : String} {Tt : u_T} {ty : Nat → FieldType} (hC : ClsOK ci nn Cn Tt ty) (hD : kB κ ≤ q ∧ q < kB κ + d) (hl : lay κ q = (ci, nn)) (hc : ci < 50) (hP : va_P (kD κ) vwCl (wl κ d st) H) (hK : KN κ s) : ∃ cell : Cell, H[q]? = some cell ∧ cell.vm.isStatics = false ∧ s.vm.findClass Cn = some cell.cls := by
  have he := wl_get (κ := κ) (d := d) (st := st) hD.1 hD.2
  rw [cellv_obj hl hc] at he
  exact va_recv hK.1 hP hC.1 he
theorem ra_invV {q ci nn : Nat} {Tt : u_T} {ty : Nat → FieldType} (hd : decode (mC M) pc = .ok (.invokevirtual ix, 3)) (hk : KV (mY M).cls ix M' n) (hR : RmOK M' M) (hC : ClsOK ci nn (mY M').cls Tt ty) (hD : kB κ ≤ q ∧ q < kB κ + d) (hl : lay κ q = (ci, nn)) (hc : ci < 50) (hs : stk = As.reverse ++ .ref q :: rest) (hn : As.length = n) (hW : (rest.map fun v => v.category).sum ≤ 8) (hdd : d ≤ d2) (hf : c + (rmOf M').cells ≤ (rmOf M).cells ∧ sl + (rmOf M').slots ≤ (rmOf M).slots)
    {Q' : Option Value → AS → Prop} (k : CA κ M' d d2 (.ref q :: As) st Q') (hq : ∀ v st', Q' v st' → VA κ M d' Q d2 (c + (rmOf M').cells) (sl + (rmOf M').slots) (pc + 3) lv (v.toList ++ rest) st') : VA κ M d' Q d c sl pc lv stk st := by
  intro p e s m args below meth c0 H locs ls hc0 hz hP hS hll
  have hc1 := hc0
  obtain ⟨hx, hb, hml, hown, hts, hK, hret, hlk, hB, hnm⟩ := hc0
  obtain ⟨hm, hlink, hinst, hsel⟩ := hk
  subst hs
  refine vgo (va_runV (As := As) (rest := rest) (C := (mY M').cls) ⟨hx, hb, hml, hown, hts⟩ k ⟨callB_of n hts (good_ws hm) rfl rfl rfl (hts _ hm.2.1) (hts _ hlink) ⟨hm.2.2.1, hm.2.2.2.1, hm.2.2.2.2⟩ hR, hts _ hinst, hts _ hsel⟩ ⟨PcX_blind, recv_at hC hD hl hc hP hK, pcx_at hB hz hP hS hK⟩ rfl hn hll.1 rfl (lv_room hW) hd hf) hS hB hz hdd fun v st' H1 locs1 hz1 hP1 hS1 h1 => ?_
  exact hq v st' h1 p e s m args below meth c0 H1 locs1 ls hc1 hz1 hP1 hS1 hll
theorem ra_invVN {q ci nn : Nat} {host : String} {Tt : u_T} {ty : Nat → FieldType} (hd : decode (mC M) pc = .ok (.invokevirtual ix, 3)) (hk : KVN (mY M).cls ix M' host n) (hR : RmOK M' M) (hC : ClsOK ci nn (mY M').cls Tt ty) (hD : kB κ ≤ q ∧ q < kB κ + d) (hl : lay κ q = (ci, nn)) (hc : ci < 50) (hs : stk = As.reverse ++ .ref q :: rest) (hn : As.length = n) (hW : (rest.map fun v => v.category).sum ≤ 8) (hdd : d ≤ d2) (hf : c + (rmOf M').cells ≤ (rmOf M).cells ∧ sl + (rmOf M').slots ≤ (rmOf M).slots)
    {Q' : Option Value → AS → Prop} (k : CA κ M' d d2 (.ref q :: As) st Q') (hq : ∀ v st', Q' v st' → VA κ M d' Q d2 (c + (rmOf M').cells) (sl + (rmOf M').slots) (pc + 3) lv (v.toList ++ rest) st') : VA κ M d' Q d c sl pc lv stk st := by
  intro p e s m args below meth c0 H locs ls hc0 hz hP hS hll
  have hc1 := hc0
  obtain ⟨hx, hb, hml, hown, hts, hK, hret, hlk, hB, hnm⟩ := hc0
  obtain ⟨hm, hlink, hinst, hsel⟩ := hk
  subst hs
  refine vgo (va_runVN (As := As) (rest := rest) (C := (mY M').cls) ⟨hx, hb, hml, hown, hts⟩ k ⟨va_cnB n hts (good_ws hm) rfl rfl rfl (hK.2.1 _ hlink) (hts _ hm.2.1) ⟨hm.2.2.1, hm.2.2.2.1, hm.2.2.2.2⟩ hR, hts _ hinst, hts _ hsel⟩ ⟨PcX_blind, recv_at hC hD hl hc hP hK, pcx_at hB hz hP hS hK⟩ rfl hn hll.1 rfl (lv_room hW) hd hf) hS hB hz hdd fun v st' H1 locs1 hz1 hP1 hS1 h1 => ?_
  exact hq v st' h1 p e s m args below meth c0 H1 locs1 ls hc1 hz1 hP1 hS1 hll
theorem ra_invS (hd : decode (mC M) pc = .ok (.invokestatic ix, 3)) (hk : KSt (mY M).cls ix M' n) (hR : RmOK M' M) (hs : stk = As.reverse ++ rest) (hn : As.length = n) (hW : (rest.map fun v => v.category).sum ≤ 8) (hdd : d ≤ d2) (hf : c + (rmOf M').cells ≤ (rmOf M).cells ∧ sl + (rmOf M').slots ≤ (rmOf M).slots)
    {Q' : Option Value → AS → Prop} (k : CA κ M' d d2 As st Q') (hq : ∀ v st', Q' v st' → VA κ M d' Q d2 (c + (rmOf M').cells) (sl + (rmOf M').slots) (pc + 3) lv (v.toList ++ rest) st') : VA κ M d' Q d c sl pc lv stk st := by
  intro p e s m args below meth c0 H locs ls hc0 hz hP hS hll
  have hc1 := hc0
  obtain ⟨hx, hb, hml, hown, hts, hK, hret, hlk, hB, hnm⟩ := hc0
  obtain ⟨hm, hlink, hstat⟩ := hk
  subst hs
  refine vgo (va_runS (As := As) (rest := rest) ⟨hx, hb, hml, hown, hts⟩ k ⟨callB_of n hts (good_ws hm) rfl rfl rfl (hts _ hm.2.1) (hts _ hlink) ⟨hm.2.2.1, hm.2.2.2.1, hm.2.2.2.2⟩ hR, hts _ hstat⟩ ⟨PcX_blind, pcx_at hB hz hP hS hK⟩ rfl hn hll.1 rfl (lv_room hW) hd hf) hS hB hz hdd fun v st' H1 locs1 hz1 hP1 hS1 h1 => ?_
  exact hq v st' h1 p e s m args below meth c0 H1 locs1 ls hc1 hz1 hP1 hS1 hll
theorem ra_invSN {host : String} (hd : decode (mC M) pc = .ok (.invokestatic ix, 3)) (hk : KSN (mY M).cls ix M' host n) (hR : RmOK M' M) (hs : stk = As.reverse ++ rest) (hn : As.length = n) (hW : (rest.map fun v => v.category).sum ≤ 8) (hdd : d ≤ d2) (hf : c + (rmOf M').cells ≤ (rmOf M).cells ∧ sl + (rmOf M').slots ≤ (rmOf M).slots)
    {Q' : Option Value → AS → Prop} (k : CA κ M' d d2 As st Q') (hq : ∀ v st', Q' v st' → VA κ M d' Q d2 (c + (rmOf M').cells) (sl + (rmOf M').slots) (pc + 3) lv (v.toList ++ rest) st') : VA κ M d' Q d c sl pc lv stk st := by
  intro p e s m args below meth c0 H locs ls hc0 hz hP hS hll
  have hc1 := hc0
  obtain ⟨hx, hb, hml, hown, hts, hK, hret, hlk, hB, hnm⟩ := hc0
  obtain ⟨hm, hlink, hstat⟩ := hk
  subst hs
  refine vgo (va_runSN (As := As) (rest := rest) ⟨hx, hb, hml, hown, hts⟩ k ⟨va_cnB n hts (good_ws hm) rfl rfl rfl (hK.2.1 _ hlink) (hts _ hm.2.1) ⟨hm.2.2.1, hm.2.2.2.1, hm.2.2.2.2⟩ hR, hts _ hstat, trivial⟩ ⟨PcX_blind, pcx_at hB hz hP hS hK⟩ rfl hn hll.1 rfl (lv_room hW) hd hf) hS hB hz hdd fun v st' H1 locs1 hz1 hP1 hS1 h1 => ?_
  exact hq v st' h1 p e s m args below meth c0 H1 locs1 ls hc1 hz1 hP1 hS1 hll
theorem ra_invI {q : Nat} (hd : decode (mC M) pc = .ok (.invokespecial ix, 3)) (hk : KI (mY M).cls ix M' n) (hR : RmOK M' M) (hs : stk = As.reverse ++ .ref q :: rest) (hn : As.length = n) (hW : (rest.map fun v => v.category).sum ≤ 8) (hdd : d ≤ d2) (hf : c + (rmOf M').cells ≤ (rmOf M).cells ∧ sl + (rmOf M').slots ≤ (rmOf M).slots)
    {Q' : Option Value → AS → Prop} (k : CA κ M' d d2 (.ref q :: As) st Q') (hq : ∀ v st', Q' v st' → VA κ M d' Q d2 (c + (rmOf M').cells) (sl + (rmOf M').slots) (pc + 3) lv (v.toList ++ rest) st') : VA κ M d' Q d c sl pc lv stk st := by
  intro p e s m args below meth c0 H locs ls hc0 hz hP hS hll
  have hc1 := hc0
  obtain ⟨hx, hb, hml, hown, hts, hK, hret, hlk, hB, hnm⟩ := hc0
  obtain ⟨hm, hlink, hinst, hini, hret2⟩ := hk
  subst hs
  have hw : wsOf M' = Cond.code (mY M') (mC M') (mL M') none :: Tg := by unfold wsOf; rw [hret2]
  refine vgo (va_runI (As := As) (rest := rest) ⟨hx, hb, hml, hown, hts⟩ k (cwI n hts (good_ws hm) hw rfl rfl (hts _ hm.2.1) (hts _ hlink) (hts _ hinst) hini ⟨hm.2.2.1, hm.2.2.2.1, hm.2.2.2.2⟩ hR) ⟨PcX_blind, pcx_at hB hz hP hS hK⟩ rfl hn hll.1 rfl (lv_room hW) hd hf) hS hB hz hdd fun v st' H1 locs1 hz1 hP1 hS1 h1 => ?_
  exact hq v st' h1 p e s m args below meth c0 H1 locs1 ls hc1 hz1 hP1 hS1 hll
theorem ra_invIN {q : Nat} {host : String} (hd : decode (mC M) pc = .ok (.invokespecial ix, 3)) (hk : KIN (mY M).cls ix M' host n) (hR : RmOK M' M) (hs : stk = As.reverse ++ .ref q :: rest) (hn : As.length = n) (hW : (rest.map fun v => v.category).sum ≤ 8) (hdd : d ≤ d2) (hf : c + (rmOf M').cells ≤ (rmOf M).cells ∧ sl + (rmOf M').slots ≤ (rmOf M).slots)
    {Q' : Option Value → AS → Prop} (k : CA κ M' d d2 (.ref q :: As) st Q') (hq : ∀ v st', Q' v st' → VA κ M d' Q d2 (c + (rmOf M').cells) (sl + (rmOf M').slots) (pc + 3) lv (v.toList ++ rest) st') : VA κ M d' Q d c sl pc lv stk st := by
  intro p e s m args below meth c0 H locs ls hc0 hz hP hS hll
  have hc1 := hc0
  obtain ⟨hx, hb, hml, hown, hts, hK, hret, hlk, hB, hnm⟩ := hc0
  obtain ⟨hm, hlink, hinst, hini, hret2⟩ := hk
  subst hs
  have hw : wsOf M' = Cond.code (mY M') (mC M') (mL M') none :: Tg := by unfold wsOf; rw [hret2]
  refine vgo (va_runIN (As := As) (rest := rest) ⟨hx, hb, hml, hown, hts⟩ k ⟨va_cnB n hts (good_ws hm) hw rfl rfl (hK.2.1 _ hlink) (hts _ hm.2.1) ⟨hm.2.2.1, hm.2.2.2.1, hm.2.2.2.2⟩ hR, hini, hts _ hinst⟩ ⟨PcX_blind, pcx_at hB hz hP hS hK⟩ rfl hn hll.1 rfl (lv_room hW) hd hf) hS hB hz hdd fun v st' H1 locs1 hz1 hP1 hS1 h1 => ?_
  exact hq v st' h1 p e s m args below meth c0 H1 locs1 ls hc1 hz1 hP1 hS1 hll
/-- Object's own constructor -/
theorem ra_objInit {q : Nat} (hd : decode (mC M) pc = .ok (.invokespecial ix, 3)) (hl : Cond.methodLink (mY M).cls ix objectInit ∈ Tg) (hfr : 1 ≤ (rmOf M).frames) (hlo : (rest.map fun v => v.category).sum + 12 ≤ (rmOf M).locals) (hi : Cond.instanceMethod objectInit ∈ Tg ∧ Cond.code objectInit ⟨#[0xb1]⟩ 1 none ∈ Tg)
    (k : VA κ M d' Q d c sl (pc + 3) lv rest st) : VA κ M d' Q d c sl pc lv (.ref q :: rest) st := by
  intro p e s m args below meth c0 H locs ls hc0 hz hP hS hll
  have hc1 := hc0
  obtain ⟨hx, hb, hml, hown, hts, hK, hret, hlk, hB, hnm⟩ := hc0
  refine W.objInit hx hb hown (hts _ hl) (hts _ hi.1) (hts _ hi.2) (g := F0 m pc ls (.ref q :: rest)) rfl (by rw [hml]; exact hll.1) rfl hd hfr (by show 2 * 0 + _ + 12 ≤ _; omega) ?_
  exact k p e s m args below meth c0 H locs ls hc1 hz hP hS hll
/-- a literal -/
theorem ra_ldcS {i : Nat} (hcl : (mY M).cls = "CrumpledSheet$Reader") (hi : i < 11) (hix : litI.getD i 0 = ix) (hd : decode (mC M) pc = .ok (.ldc ix, 2))
    (k : VA κ M d' Q d c sl (pc + 2) lv (.ref (kK κ i) :: rest) st) : VA κ M d' Q d c sl pc lv rest st := by
  intro p e s m args below meth c0 H locs ls hc0 hz hP hS hll
  have hc1 := hc0
  obtain ⟨hx, hb, hml, hown, hts, hK, hret, hlk, hB, hnm⟩ := hc0
  have h1 := hK.2.2.1.2.2.2.1 i hi
  rw [hix, ← hcl] at h1
  exact va_ldcS hx hb hown h1 hd (k p e s m args below meth c0 H locs ls hc1 hz hP hS hll)
end Calls
/-! the same at an ordinary method: no cell is made -/
def NoC (M : Mth) : Prop := (rmOf M).cells = 0 ∧ (rmOf M).slots = 0
theorem lay_lt {κ : Kp} {q c n : Nat} (h : lay κ q = (c, n)) (hc : c < 100) : kB κ ≤ q ∧ q < kB κ + TOT := lay_in h hc
theorem v0 {κ : Ko} {M M' : Mth} {Q : Option Value → AS → Prop} {pc : Nat} {lv : List (Option Value)} {stk : List Value} {st : AS} (h : NoC M') (k : V κ M Q pc lv stk st) : VA (kt κ) M TOT Q TOT (0 + (rmOf M').cells) (0 + (rmOf M').slots) pc lv stk st := by
  rw [h.1, h.2]
  exact k
theorem n0 {M M' : Mth} (h : NoC M') : 0 + (rmOf M').cells ≤ (rmOf M).cells ∧ 0 + (rmOf M').slots ≤ (rmOf M).slots := by
  rw [h.1, h.2]
  exact ⟨Nat.zero_le _, Nat.zero_le _⟩
section VCalls
variable {κ : Ko} {M M' : Mth} {pc ix n : Nat} {Q : Option Value → AS → Prop} {lv lv2 : List (Option Value)} {As rest stk : List Value} {st : AS}
theorem v_invV_I {q ci nn : Nat} {Tt : u_T} {ty : Nat → FieldType} (hd : decode (mC M) pc = .ok (.invokevirtual ix, 3)) (hk : KV (mY M).cls ix M' n) (hR : RmOK M' M) (hN : NoC M') (hC : ClsOK ci nn (mY M').cls Tt ty) (hl : ly κ q = (ci, nn)) (hc : ci < 50) (hs : stk = As.reverse ++ .ref q :: rest) (hn : As.length = n) (hW : (rest.map fun v => v.category).sum ≤ 8) (k : C κ M' (.ref q :: As) st (RI fun x st' => V κ M Q (pc + 3) lv2 (.int x :: rest) st')) (h2 : lsub lv2 lv) : V κ M Q pc lv stk st := by
  refine ra_invV hd hk hR hC (lay_lt hl (by omega)) hl hc hs hn hW (Nat.le_refl _) (n0 hN) k (fun v st' hq => ?_)
  obtain ⟨x, hv, h⟩ := hq
  subst hv
  exact v0 hN (VA.sub h2 h)
theorem v_invV_L {q ci nn : Nat} {Tt : u_T} {ty : Nat → FieldType} (hd : decode (mC M) pc = .ok (.invokevirtual ix, 3)) (hk : KV (mY M).cls ix M' n) (hR : RmOK M' M) (hN : NoC M') (hC : ClsOK ci nn (mY M').cls Tt ty) (hl : ly κ q = (ci, nn)) (hc : ci < 50) (hs : stk = As.reverse ++ .ref q :: rest) (hn : As.length = n) (hW : (rest.map fun v => v.category).sum ≤ 8) (k : C κ M' (.ref q :: As) st (RL fun x st' => V κ M Q (pc + 3) lv2 (.long x :: rest) st')) (h2 : lsub lv2 lv) : V κ M Q pc lv stk st := by
  refine ra_invV hd hk hR hC (lay_lt hl (by omega)) hl hc hs hn hW (Nat.le_refl _) (n0 hN) k (fun v st' hq => ?_)
  obtain ⟨x, hv, h⟩ := hq
  subst hv
  exact v0 hN (VA.sub h2 h)
theorem v_invV_V {q ci nn : Nat} {Tt : u_T} {ty : Nat → FieldType} (hd : decode (mC M) pc = .ok (.invokevirtual ix, 3)) (hk : KV (mY M).cls ix M' n) (hR : RmOK M' M) (hN : NoC M') (hC : ClsOK ci nn (mY M').cls Tt ty) (hl : ly κ q = (ci, nn)) (hc : ci < 50) (hs : stk = As.reverse ++ .ref q :: rest) (hn : As.length = n) (hW : (rest.map fun v => v.category).sum ≤ 8) (k : C κ M' (.ref q :: As) st (RV fun st' => V κ M Q (pc + 3) lv2 (rest) st')) (h2 : lsub lv2 lv) : V κ M Q pc lv stk st := by
  refine ra_invV hd hk hR hC (lay_lt hl (by omega)) hl hc hs hn hW (Nat.le_refl _) (n0 hN) k (fun v st' hq => ?_)
  obtain ⟨hv, h⟩ := hq
  subst hv
  exact v0 hN (VA.sub h2 h)
theorem v_invV_R {q ci nn : Nat} {Tt : u_T} {ty : Nat → FieldType} (hd : decode (mC M) pc = .ok (.invokevirtual ix, 3)) (hk : KV (mY M).cls ix M' n) (hR : RmOK M' M) (hN : NoC M') (hC : ClsOK ci nn (mY M').cls Tt ty) (hl : ly κ q = (ci, nn)) (hc : ci < 50) (hs : stk = As.reverse ++ .ref q :: rest) (hn : As.length = n) (hW : (rest.map fun v => v.category).sum ≤ 8) (k : C κ M' (.ref q :: As) st (RR fun x st' => V κ M Q (pc + 3) lv2 (x :: rest) st')) (h2 : lsub lv2 lv) : V κ M Q pc lv stk st := by
  refine ra_invV hd hk hR hC (lay_lt hl (by omega)) hl hc hs hn hW (Nat.le_refl _) (n0 hN) k (fun v st' hq => ?_)
  obtain ⟨x, hv, h⟩ := hq
  subst hv
  exact v0 hN (VA.sub h2 h)
theorem v_invVN_I {q ci nn : Nat} {host : String} {Tt : u_T} {ty : Nat → FieldType} (hd : decode (mC M) pc = .ok (.invokevirtual ix, 3)) (hk : KVN (mY M).cls ix M' host n) (hR : RmOK M' M) (hN : NoC M') (hC : ClsOK ci nn (mY M').cls Tt ty) (hl : ly κ q = (ci, nn)) (hc : ci < 50) (hs : stk = As.reverse ++ .ref q :: rest) (hn : As.length = n) (hW : (rest.map fun v => v.category).sum ≤ 8) (k : C κ M' (.ref q :: As) st (RI fun x st' => V κ M Q (pc + 3) lv2 (.int x :: rest) st')) (h2 : lsub lv2 lv) : V κ M Q pc lv stk st := by
  refine ra_invVN hd hk hR hC (lay_lt hl (by omega)) hl hc hs hn hW (Nat.le_refl _) (n0 hN) k (fun v st' hq => ?_)
  obtain ⟨x, hv, h⟩ := hq
  subst hv
  exact v0 hN (VA.sub h2 h)
theorem v_invVN_L {q ci nn : Nat} {host : String} {Tt : u_T} {ty : Nat → FieldType} (hd : decode (mC M) pc = .ok (.invokevirtual ix, 3)) (hk : KVN (mY M).cls ix M' host n) (hR : RmOK M' M) (hN : NoC M') (hC : ClsOK ci nn (mY M').cls Tt ty) (hl : ly κ q = (ci, nn)) (hc : ci < 50) (hs : stk = As.reverse ++ .ref q :: rest) (hn : As.length = n) (hW : (rest.map fun v => v.category).sum ≤ 8) (k : C κ M' (.ref q :: As) st (RL fun x st' => V κ M Q (pc + 3) lv2 (.long x :: rest) st')) (h2 : lsub lv2 lv) : V κ M Q pc lv stk st := by
  refine ra_invVN hd hk hR hC (lay_lt hl (by omega)) hl hc hs hn hW (Nat.le_refl _) (n0 hN) k (fun v st' hq => ?_)
  obtain ⟨x, hv, h⟩ := hq
  subst hv
  exact v0 hN (VA.sub h2 h)
theorem v_invVN_V {q ci nn : Nat} {host : String} {Tt : u_T} {ty : Nat → FieldType} (hd : decode (mC M) pc = .ok (.invokevirtual ix, 3)) (hk : KVN (mY M).cls ix M' host n) (hR : RmOK M' M) (hN : NoC M') (hC : ClsOK ci nn (mY M').cls Tt ty) (hl : ly κ q = (ci, nn)) (hc : ci < 50) (hs : stk = As.reverse ++ .ref q :: rest) (hn : As.length = n) (hW : (rest.map fun v => v.category).sum ≤ 8) (k : C κ M' (.ref q :: As) st (RV fun st' => V κ M Q (pc + 3) lv2 (rest) st')) (h2 : lsub lv2 lv) : V κ M Q pc lv stk st := by
  refine ra_invVN hd hk hR hC (lay_lt hl (by omega)) hl hc hs hn hW (Nat.le_refl _) (n0 hN) k (fun v st' hq => ?_)
  obtain ⟨hv, h⟩ := hq
  subst hv
  exact v0 hN (VA.sub h2 h)
theorem v_invVN_R {q ci nn : Nat} {host : String} {Tt : u_T} {ty : Nat → FieldType} (hd : decode (mC M) pc = .ok (.invokevirtual ix, 3)) (hk : KVN (mY M).cls ix M' host n) (hR : RmOK M' M) (hN : NoC M') (hC : ClsOK ci nn (mY M').cls Tt ty) (hl : ly κ q = (ci, nn)) (hc : ci < 50) (hs : stk = As.reverse ++ .ref q :: rest) (hn : As.length = n) (hW : (rest.map fun v => v.category).sum ≤ 8) (k : C κ M' (.ref q :: As) st (RR fun x st' => V κ M Q (pc + 3) lv2 (x :: rest) st')) (h2 : lsub lv2 lv) : V κ M Q pc lv stk st := by
  refine ra_invVN hd hk hR hC (lay_lt hl (by omega)) hl hc hs hn hW (Nat.le_refl _) (n0 hN) k (fun v st' hq => ?_)
  obtain ⟨x, hv, h⟩ := hq
  subst hv
  exact v0 hN (VA.sub h2 h)
theorem v_invS_I  (hd : decode (mC M) pc = .ok (.invokestatic ix, 3)) (hk : KSt (mY M).cls ix M' n) (hR : RmOK M' M) (hN : NoC M') (hs : stk = As.reverse ++ rest) (hn : As.length = n) (hW : (rest.map fun v => v.category).sum ≤ 8) (k : C κ M' As st (RI fun x st' => V κ M Q (pc + 3) lv2 (.int x :: rest) st')) (h2 : lsub lv2 lv) : V κ M Q pc lv stk st := by
  refine ra_invS hd hk hR hs hn hW (Nat.le_refl _) (n0 hN) k (fun v st' hq => ?_)
  obtain ⟨x, hv, h⟩ := hq
  subst hv
  exact v0 hN (VA.sub h2 h)
theorem v_invS_L  (hd : decode (mC M) pc = .ok (.invokestatic ix, 3)) (hk : KSt (mY M).cls ix M' n) (hR : RmOK M' M) (hN : NoC M') (hs : stk = As.reverse ++ rest) (hn : As.length = n) (hW : (rest.map fun v => v.category).sum ≤ 8) (k : C κ M' As st (RL fun x st' => V κ M Q (pc + 3) lv2 (.long x :: rest) st')) (h2 : lsub lv2 lv) : V κ M Q pc lv stk st := by
  refine ra_invS hd hk hR hs hn hW (Nat.le_refl _) (n0 hN) k (fun v st' hq => ?_)
  obtain ⟨x, hv, h⟩ := hq
  subst hv
  exact v0 hN (VA.sub h2 h)
theorem v_invS_V  (hd : decode (mC M) pc = .ok (.invokestatic ix, 3)) (hk : KSt (mY M).cls ix M' n) (hR : RmOK M' M) (hN : NoC M') (hs : stk = As.reverse ++ rest) (hn : As.length = n) (hW : (rest.map fun v => v.category).sum ≤ 8) (k : C κ M' As st (RV fun st' => V κ M Q (pc + 3) lv2 (rest) st')) (h2 : lsub lv2 lv) : V κ M Q pc lv stk st := by
  refine ra_invS hd hk hR hs hn hW (Nat.le_refl _) (n0 hN) k (fun v st' hq => ?_)
  obtain ⟨hv, h⟩ := hq
  subst hv
  exact v0 hN (VA.sub h2 h)
theorem v_invS_R  (hd : decode (mC M) pc = .ok (.invokestatic ix, 3)) (hk : KSt (mY M).cls ix M' n) (hR : RmOK M' M) (hN : NoC M') (hs : stk = As.reverse ++ rest) (hn : As.length = n) (hW : (rest.map fun v => v.category).sum ≤ 8) (k : C κ M' As st (RR fun x st' => V κ M Q (pc + 3) lv2 (x :: rest) st')) (h2 : lsub lv2 lv) : V κ M Q pc lv stk st := by
  refine ra_invS hd hk hR hs hn hW (Nat.le_refl _) (n0 hN) k (fun v st' hq => ?_)
  obtain ⟨x, hv, h⟩ := hq
  subst hv
  exact v0 hN (VA.sub h2 h)
theorem v_invSN_I {host : String} (hd : decode (mC M) pc = .ok (.invokestatic ix, 3)) (hk : KSN (mY M).cls ix M' host n) (hR : RmOK M' M) (hN : NoC M') (hs : stk = As.reverse ++ rest) (hn : As.length = n) (hW : (rest.map fun v => v.category).sum ≤ 8) (k : C κ M' As st (RI fun x st' => V κ M Q (pc + 3) lv2 (.int x :: rest) st')) (h2 : lsub lv2 lv) : V κ M Q pc lv stk st := by
  refine ra_invSN hd hk hR hs hn hW (Nat.le_refl _) (n0 hN) k (fun v st' hq => ?_)
  obtain ⟨x, hv, h⟩ := hq
  subst hv
  exact v0 hN (VA.sub h2 h)
theorem v_invSN_L {host : String} (hd : decode (mC M) pc = .ok (.invokestatic ix, 3)) (hk : KSN (mY M).cls ix M' host n) (hR : RmOK M' M) (hN : NoC M') (hs : stk = As.reverse ++ rest) (hn : As.length = n) (hW : (rest.map fun v => v.category).sum ≤ 8) (k : C κ M' As st (RL fun x st' => V κ M Q (pc + 3) lv2 (.long x :: rest) st')) (h2 : lsub lv2 lv) : V κ M Q pc lv stk st := by
  refine ra_invSN hd hk hR hs hn hW (Nat.le_refl _) (n0 hN) k (fun v st' hq => ?_)
  obtain ⟨x, hv, h⟩ := hq
  subst hv
  exact v0 hN (VA.sub h2 h)
theorem v_invSN_V {host : String} (hd : decode (mC M) pc = .ok (.invokestatic ix, 3)) (hk : KSN (mY M).cls ix M' host n) (hR : RmOK M' M) (hN : NoC M') (hs : stk = As.reverse ++ rest) (hn : As.length = n) (hW : (rest.map fun v => v.category).sum ≤ 8) (k : C κ M' As st (RV fun st' => V κ M Q (pc + 3) lv2 (rest) st')) (h2 : lsub lv2 lv) : V κ M Q pc lv stk st := by
  refine ra_invSN hd hk hR hs hn hW (Nat.le_refl _) (n0 hN) k (fun v st' hq => ?_)
  obtain ⟨hv, h⟩ := hq
  subst hv
  exact v0 hN (VA.sub h2 h)
theorem v_invSN_R {host : String} (hd : decode (mC M) pc = .ok (.invokestatic ix, 3)) (hk : KSN (mY M).cls ix M' host n) (hR : RmOK M' M) (hN : NoC M') (hs : stk = As.reverse ++ rest) (hn : As.length = n) (hW : (rest.map fun v => v.category).sum ≤ 8) (k : C κ M' As st (RR fun x st' => V κ M Q (pc + 3) lv2 (x :: rest) st')) (h2 : lsub lv2 lv) : V κ M Q pc lv stk st := by
  refine ra_invSN hd hk hR hs hn hW (Nat.le_refl _) (n0 hN) k (fun v st' hq => ?_)
  obtain ⟨x, hv, h⟩ := hq
  subst hv
  exact v0 hN (VA.sub h2 h)
end VCalls
