/-! the judgement, its entry, its ends -/
theorem EX.keep {κ : Kp} {U : State} {H H1 : Heap} (hz : kB κ ≤ H.size) (h : EX κ U H) (hq : ∀ q, q < kB κ → H1[q]? = H[q]?) : EX κ U H1 := by
  obtain ⟨h1, h2, h3, h4, h5, h6⟩ := h
  have hq' : ∀ a : Nat, a < H.size → ¬ kB κ ≤ a → H1[a]? = H[a]? := fun a _ ha => hq a (by omega)
  exact ⟨h1.kept (hq _ h2), h2, h3.kept hq', h4, h5.kept hq', h6.kept hq'⟩
theorem KN.same {κ : Kp} {u U : State} (hv : U.vm = u.vm) (hh : U.heap = u.heap) (h : KN κ u) : KN κ U := by
  obtain ⟨h1, h2, ⟨g1, g2, g3, g4, g5, g6⟩, h4⟩ := h
  have hal : u.vm.Alike U.vm := by rw [hv]; exact Vm.Alike.refl _
  refine ⟨h1.moved hal, h2.same hv.symm, ?_, ?_⟩
  · rw [hh]
    exact ⟨g1.moved hal, g2, g3.moved hal, fun i hi => vk_R.same hv (g4 i hi), va_Z.moved hal g5, va_Zq.moved hal g6⟩
  · obtain ⟨a1, a2, a3, a4, a5, a6⟩ := h4
    exact ⟨a1.moved hal, a2.moved hal, a3.moved hal, a4.moved hal, a5.moved hal, a6.moved hal⟩
theorem KN.warm {κ : Kp} {s U : State} (hW : s.WarmedH U.vm) (hz : kB κ ≤ s.heap.size) (hq : ∀ q, q < kB κ → U.heap[q]? = s.heap[q]?) (h : KN κ s) : KN κ U := by
  obtain ⟨h1, h2, h3, h4⟩ := h
  have hal : s.vm.Alike U.vm := hW.alike
  have h3 := h3.keep hz hq
  obtain ⟨g1, g2, g3, g4, g5, g6⟩ := h3
  refine ⟨h1.moved hal, h2.warm hW, ⟨g1.moved hal, g2, g3.moved hal, fun i hi => vk_R.warm hW (g4 i hi), va_Z.moved hal g5, va_Zq.moved hal g6⟩, ?_⟩
  obtain ⟨a1, a2, a3, a4, a5, a6⟩ := h4
  exact ⟨a1.moved hal, a2.moved hal, a3.moved hal, a4.moved hal, a5.moved hal, a6.moved hal⟩
/-- a method: name, code, locals, answer, room (frames, locals' words, cells, slots) -/
abbrev Mth : Type := MethodName × ByteArray × Nat × Option FieldType × (Nat × Nat × Nat × Nat)
abbrev mY (M : Mth) : MethodName := M.1
abbrev mC (M : Mth) : ByteArray := M.2.1
abbrev mL (M : Mth) : Nat := M.2.2.1
abbrev mR (M : Mth) : Option FieldType := M.2.2.2.1
def rmOf (M : Mth) : Room := { frames := M.2.2.2.2.1, cells := M.2.2.2.2.2.2.1, slots := M.2.2.2.2.2.2.2, locals := M.2.2.2.2.2.1 }
def wsOf (M : Mth) : List Cond := Cond.code (mY M) (mC M) (mL M) (mR M) :: Tg
def CX (κ : Kp) (M : Mth) (p : Program) (s : State) (m : MethodId) (args : Array Value) (meth : Method) (c : Code) : Prop :=
  p.tables.exec = Jvm.exec ∧ c.code = mC M ∧ c.maxLocals = mL M ∧ s.vm.findClass (mY M).cls = some m.cls ∧ (∀ w ∈ Tg, w.before args s = true) ∧ KN κ s ∧ meth.sig.returnType = mR M ∧ meth.locks = false ∧ kB κ ≤ s.heap.size ∧ meth.name = (mY M).name
def lh (ls : Array Slot) (nL : Nat) (lv : List (Option Value)) : Prop := ls.size = nL ∧ lv_wf ls ∧ ∀ (i : Nat) (v : Value), lv[i]? = some (some v) → ls[i]? = some (.val v)
abbrev kQ (κ : Kp) : Nat → Prop := fun q => kB κ ≤ q
def QcX (κ : Kp) (d' : Nat) (Q : Option Value → AS → Prop) : Array Value → State → Outcome → State → Prop := fun _ s o t =>
  ∃ (v : Option Value) (st : AS), o = .returned v ∧ t.heap.size = kB κ + d' ∧ va_P (kD κ) vwCl (wl κ d' st) t.heap ∧ Q v st ∧ ∀ q, q < kB κ → t.heap[q]? = s.heap[q]?
def PcX (κ : Kp) (d : Nat) (vs : List Value) (st : AS) : Array Value → State → Prop := fun a U =>
  a = vs.toArray ∧ U.heap.size = kB κ + d ∧ va_P (kD κ) vwCl (wl κ d st) U.heap ∧ KN κ U
/-- the contract: called with these at this store, it answers with Q -/
def CA (κ : Kp) (M : Mth) (d d' : Nat) (vs : List Value) (st : AS) (Q : Option Value → AS → Prop) : Prop :=
  Met (kL κ) (mY M) (wsOf M) (rmOf M) (PcX κ d vs st) (QcX κ d' Q) (rmOf M).cells (rmOf M).slots (kQ κ)
def VA (κ : Kp) (M : Mth) (d' : Nat) (Q : Option Value → AS → Prop) (d c sl pc : Nat) (lv : List (Option Value)) (stk : List Value) (st : AS) : Prop :=
  ∀ (p : Program) (e : Env) (s : State) (m : MethodId) (args : Array Value) (below : List Frame) (meth : Method) (c0 : Code) (H : Heap) (locs : List Loc) (ls : Array Slot),
    CX κ M p s m args meth c0 → H.size = kB κ + d → va_P (kD κ) vwCl (wl κ d st) H → va_S (kQ κ) s.heap H locs → lh ls (mL M) lv →
    W p (kL κ) e (rmOf M) s m args below meth c0 H locs c sl (MQ below (QcX κ d' Q) args s (rmOf M).cells (rmOf M).slots (kQ κ)) (F0 m pc ls stk)
/-- the same, all cells made, the final references in place -/
abbrev Ko : Type := Launch × va_G × (Nat → ClassId) × Nat × (Nat × Nat × (Nat → Int32)) × ((Nat → Nat) × (Nat → Nat))
abbrev kt (κ : Ko) : Kp := (κ.1, κ.2.1, κ.2.2.1, κ.2.2.2.1, true, κ.2.2.2.2)
abbrev ly (κ : Ko) (q : Nat) : Nat × Nat := lay (kt κ) q
abbrev V (κ : Ko) (M : Mth) (Q : Option Value → AS → Prop) (pc : Nat) (lv : List (Option Value)) (stk : List Value) (st : AS) : Prop := VA (kt κ) M TOT Q TOT 0 0 pc lv stk st
abbrev C (κ : Ko) (M : Mth) (vs : List Value) (st : AS) (Q : Option Value → AS → Prop) : Prop := CA (kt κ) M TOT TOT vs st Q
/-- the typed ends -/
def RI (F : Int32 → AS → Prop) : Option Value → AS → Prop := fun v st => ∃ x, v = some (.int x) ∧ F x st
def RL (F : Int64 → AS → Prop) : Option Value → AS → Prop := fun v st => ∃ x, v = some (.long x) ∧ F x st
def RV (F : AS → Prop) : Option Value → AS → Prop := fun v st => v = none ∧ F st
def RR (F : Value → AS → Prop) : Option Value → AS → Prop := fun v st => ∃ x, v = some x ∧ F x st
theorem RI.mk {F : Int32 → AS → Prop} {x : Int32} {st : AS} (h : F x st) : RI F (some (.int x)) st := ⟨x, rfl, h⟩
theorem RL.mk {F : Int64 → AS → Prop} {x : Int64} {st : AS} (h : F x st) : RL F (some (.long x)) st := ⟨x, rfl, h⟩
theorem RV.mk {F : AS → Prop} {st : AS} (h : F st) : RV F none st := ⟨rfl, h⟩
theorem RR.mk {F : Value → AS → Prop} {x : Value} {st : AS} (h : F x st) : RR F (some x) st := ⟨x, rfl, h⟩
/-! the locals at the start -/
def ents : List Value → List (Option Value)
  | [] => []
  | v :: vs => if v.category = 2 then some v :: none :: ents vs else some v :: ents vs
theorem ents_sl : ∀ (vs : List Value) (i : Nat) (v : Value), (ents vs)[i]? = some (some v) → (lg_sl vs)[i]? = some (.val v)
  | [], i, v, h => by simp [ents] at h
  | w :: vs, i, v, h => by
    have hc : lg_sl (w :: vs) = (if w.category = 2 then [Slot.val w, .second] else [Slot.val w]) ++ lg_sl vs := by simp [lg_sl]
    rw [hc]
    by_cases h2 : w.category = 2
    · rw [ents, if_pos h2] at h
      rw [if_pos h2]
      match i, h with
      | 0, h => simpa using h
      | 1, h => simp at h
      | i + 2, h => exact ents_sl vs i v (by simpa using h)
    · rw [ents, if_neg h2] at h
      rw [if_neg h2]
      match i, h with
      | 0, h => simpa using h
      | i + 1, h => exact ents_sl vs i v (by simpa using h)
theorem lh_entry (vs : List Value) {n : Nat} {lv : List (Option Value)} (h : (lg_sl vs).length ≤ n) (he : ∀ (i : Nat) (v : Value), lv[i]? = some (some v) → (ents vs)[i]? = some (some v)) : lh ((lg_sl vs ++ List.replicate (n - (lg_sl vs).length) Slot.unset).toArray) n lv := by
  obtain ⟨h1, h2, -⟩ := lv_entry vs h
  refine ⟨h1, h2, fun i v hv => ?_⟩
  have h3 := ents_sl vs i v (he i v hv)
  have hl : i < (lg_sl vs).length := (List.getElem?_eq_some_iff.mp h3).1
  rw [List.getElem?_toArray, List.getElem?_append_left hl]
  exact h3
theorem lh_sub {ls : Array Slot} {n : Nat} {lv lv' : List (Option Value)} (h : lh ls n lv) (hs : ∀ (i : Nat) (v : Value), lv'[i]? = some (some v) → lv[i]? = some (some v)) : lh ls n lv' := ⟨h.1, h.2.1, fun i v hv => h.2.2 i v (hs i v hv)⟩
/-- fewer known locals: place by place -/
def lsub : List (Option Value) → List (Option Value) → Prop
  | [], _ => True
  | none :: a, [] => lsub a []
  | some _ :: _, [] => False
  | none :: a, _ :: b => lsub a b
  | some v :: a, w :: b => w = some v ∧ lsub a b
theorem lsub_get : ∀ (a b : List (Option Value)), lsub a b → ∀ (i : Nat) (v : Value), a[i]? = some (some v) → b[i]? = some (some v)
  | [], _, _, i, v, h => by simp at h
  | none :: a, [], hs, i, v, h => by
    match i, h with
    | 0, h => simp at h
    | i + 1, h => have := lsub_get a [] hs i v (by simpa using h); simp at this
  | some _ :: _, [], hs, i, v, h => hs.elim
  | none :: a, w :: b, hs, i, v, h => by
    match i, h with
    | 0, h => simp at h
    | i + 1, h => simpa using lsub_get a b hs i v (by simpa using h)
  | some x :: a, w :: b, hs, i, v, h => by
    match i, h with
    | 0, h => simp at h; subst h; simpa using hs.1
    | i + 1, h => simpa using lsub_get a b hs.2 i v (by simpa using h)
theorem VA.sub {κ : Kp} {M : Mth} {d' d c sl pc : Nat} {Q : Option Value → AS → Prop} {lv lv' : List (Option Value)} {stk : List Value} {st : AS} (hs : lsub lv' lv) (h : VA κ M d' Q d c sl pc lv' stk st) : VA κ M d' Q d c sl pc lv stk st :=
  fun p e s m args below meth c0 H locs ls hc hz hP hS hl => h p e s m args below meth c0 H locs ls hc hz hP hS (lh_sub hl (lsub_get _ _ hs))
theorem VA.sub2 {κ : Kp} {M : Mth} {d' d c sl pc : Nat} {Q : Option Value → AS → Prop} {lv lv' : List (Option Value)} {stk : List Value} {st : AS} (h : VA κ M d' Q d c sl pc lv' stk st) (hs : lsub lv' lv) : VA κ M d' Q d c sl pc lv stk st := VA.sub hs h
theorem wsOf_good : ∀ w ∈ Tg, goodWord w = true := fun _ h => Tg_good h
theorem CA_of {κ : Kp} {M : Mth} {d d' : Nat} {vs : List Value} {st : AS} {Q : Option Value → AS → Prop} {lv : List (Option Value)} (hy : plainName (mY M).cls = true) (hv : (lg_sl vs).length ≤ mL M) (he : lsub lv (ents vs)) (h : VA κ M d' Q d 0 0 0 lv [] st) : CA κ M d d' vs st Q := by
  refine Met.ofW (cc := mC M) (maxL := mL M) (ret := mR M) hy rfl ?_
  intro p e s m args below meth c s₁ B hml hv'
  obtain ⟨rfl, hsz, hP, hK⟩ := hv'
  have hts := atoms_spec (ws := wsOf M) B.pre
  rw [lg_entry_eq]
  exact h p e s m _ below meth c s.heap [] _ ⟨B.exec, B.bytes, hml, findClass_of_methodNamed B.named, fun w hw => hts w (List.mem_cons_of_mem _ hw), hK, B.returns, B.notSynchronized, by omega, (name_of_methodNamed B.named B.method).1⟩ hsz hP va_S.rf (lh_entry vs hv (lsub_get _ _ he))
section Ends
variable {κ : Kp} {M : Mth} {d c sl pc : Nat} {Q : Option Value → AS → Prop} {lv : List (Option Value)} {st : AS}
theorem endq {H : Heap} {s t : State} {args : Array Value} {v : Option Value} {locs : List Loc} (hz : H.size = kB κ + d) (hP : va_P (kD κ) vwCl (wl κ d st) H) (hb : kB κ ≤ s.heap.size) (hS : va_S (kQ κ) s.heap H locs) (hq : Q v st) (ht : t.heap = H) : QcX κ d Q args s (.returned v) t :=
  ⟨v, st, rfl, by rw [ht]; exact hz, by rw [ht]; exact hP, hq, fun q h => by rw [ht]; exact hS.2.1 q (by omega) (by show ¬ kB κ ≤ q; omega)⟩
theorem r_ireturn {ty : FieldType} {x : Int32} (hd : decode (mC M) pc = .ok (.ireturn, 1)) (hr : mR M = some ty) (hn : narrow ty (.int x) = .int x) (h1 : c ≤ (rmOf M).cells) (h2 : sl ≤ (rmOf M).slots) (hq : Q (some (.int x)) st) : VA κ M d Q d c sl pc lv [.int x] st := by
  intro p e s m args below meth c0 H locs ls hc hz hP hS hl
  obtain ⟨hx, hb, hml, hown, hts, hK, hret, hlk, hB, -⟩ := hc
  refine W.widen h1 h2 ?_
  exact W.zret (ty := ty) hx hb (hret.trans hr) hn (fun t ht _ => endq hz hP hB hS hq ht) hS.2.2 hd hlk
theorem r_vreturn (hd : decode (mC M) pc = .ok (.return_, 1)) (hr : mR M = none) (h1 : c ≤ (rmOf M).cells) (h2 : sl ≤ (rmOf M).slots) (hq : Q none st) : VA κ M d Q d c sl pc lv [] st := by
  intro p e s m args below meth c0 H locs ls hc hz hP hS hl
  obtain ⟨hx, hb, hml, hown, hts, hK, hret, hlk, hB, -⟩ := hc
  refine W.widen h1 h2 ?_
  exact W.vret hx hb (hret.trans hr) (fun t ht _ => endq hz hP hB hS hq ht) hS.2.2 hd hlk
theorem r_lreturn {x : Int64} (hd : decode (mC M) pc = .ok (.lreturn, 1)) (hr : mR M = some .long) (h1 : c ≤ (rmOf M).cells) (h2 : sl ≤ (rmOf M).slots) (hq : Q (some (.long x)) st) : VA κ M d Q d c sl pc lv [.long x] st := by
  intro p e s m args below meth c0 H locs ls hc hz hP hS hl
  obtain ⟨hx, hb, hml, hown, hts, hK, hret, hlk, hB, -⟩ := hc
  refine W.widen h1 h2 ?_
  exact W.lret hx hb (hret.trans hr) (fun t ht _ => endq hz hP hB hS hq ht) hS.2.2 hd hlk
theorem r_areturn {rt : FieldType} {v : Value} (hd : decode (mC M) pc = .ok (.areturn, 1)) (hr : mR M = some rt) (hrt : (∃ n, rt = .object n) ∨ ∃ t, rt = .array t) (hv : v = .null ∨ ∃ a, v = .ref a) (h1 : c ≤ (rmOf M).cells) (h2 : sl ≤ (rmOf M).slots) (hq : Q (some v) st) : VA κ M d Q d c sl pc lv [v] st := by
  intro p e s m args below meth c0 H locs ls hc hz hP hS hl
  obtain ⟨hx, hb, hml, hown, hts, hK, hret, hlk, hB, -⟩ := hc
  refine W.widen h1 h2 ?_
  exact W.aret hx hb (hret.trans hr) hrt hv (fun t ht _ => endq hz hP hB hS hq ht) hS.2.2 hd hlk
end Ends
