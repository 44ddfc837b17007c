section Rows
variable {κ : Kp} {M : Mth} {d' d c sl pc : Nat} {Q : Option Value → AS → Prop} {lv : List (Option Value)} {rest : List Value} {st : AS}
theorem r_iload_n {i : Nat} {f : Fin 4} {x : Int32} (hd : decode (mC M) pc = .ok (.iload_n f, 1)) (hi : (f : Nat) = i) (hv : lv[i]? = some (some (.int x))) (k : VA κ M d' Q d c sl (pc + 1) lv (.int x :: rest) st) : VA κ M d' Q d c sl pc lv (rest) st := by
  intro p e s m args below meth c0 H locs ls hc hz hP hS hl
  obtain ⟨hx, hb, hml, hown, hts, hK, hret, hlk, hB, hnm⟩ := hc
  exact lv_iload_n hx hb hd hi (hl.2.2 _ _ hv) (k p e s m args below meth c0 H locs ls ⟨hx, hb, hml, hown, hts, hK, hret, hlk, hB, hnm⟩ hz hP hS hl)
theorem r_iload {i : Nat} {x : Int32} (hd : decode (mC M) pc = .ok (.iload i, 2)) (hv : lv[i]? = some (some (.int x))) (k : VA κ M d' Q d c sl (pc + 2) lv (.int x :: rest) st) : VA κ M d' Q d c sl pc lv (rest) st := by
  intro p e s m args below meth c0 H locs ls hc hz hP hS hl
  obtain ⟨hx, hb, hml, hown, hts, hK, hret, hlk, hB, hnm⟩ := hc
  exact lv_iload hx hb hd (hl.2.2 _ _ hv) (k p e s m args below meth c0 H locs ls ⟨hx, hb, hml, hown, hts, hK, hret, hlk, hB, hnm⟩ hz hP hS hl)
theorem r_lload_n {i : Nat} {f : Fin 4} {x : Int64} (hd : decode (mC M) pc = .ok (.lload_n f, 1)) (hi : (f : Nat) = i) (hv : lv[i]? = some (some (.long x))) (k : VA κ M d' Q d c sl (pc + 1) lv (.long x :: rest) st) : VA κ M d' Q d c sl pc lv (rest) st := by
  intro p e s m args below meth c0 H locs ls hc hz hP hS hl
  obtain ⟨hx, hb, hml, hown, hts, hK, hret, hlk, hB, hnm⟩ := hc
  exact lv_lload_n hx hb hd hi (hl.2.2 _ _ hv) (k p e s m args below meth c0 H locs ls ⟨hx, hb, hml, hown, hts, hK, hret, hlk, hB, hnm⟩ hz hP hS hl)
theorem r_lload {i : Nat} {x : Int64} (hd : decode (mC M) pc = .ok (.lload i, 2)) (hv : lv[i]? = some (some (.long x))) (k : VA κ M d' Q d c sl (pc + 2) lv (.long x :: rest) st) : VA κ M d' Q d c sl pc lv (rest) st := by
  intro p e s m args below meth c0 H locs ls hc hz hP hS hl
  obtain ⟨hx, hb, hml, hown, hts, hK, hret, hlk, hB, hnm⟩ := hc
  exact lv_lload hx hb hd (hl.2.2 _ _ hv) (k p e s m args below meth c0 H locs ls ⟨hx, hb, hml, hown, hts, hK, hret, hlk, hB, hnm⟩ hz hP hS hl)
theorem r_aload_n {i : Nat} {f : Fin 4} {x : Nat} (hd : decode (mC M) pc = .ok (.aload_n f, 1)) (hi : (f : Nat) = i) (hv : lv[i]? = some (some (.ref x))) (k : VA κ M d' Q d c sl (pc + 1) lv (.ref x :: rest) st) : VA κ M d' Q d c sl pc lv (rest) st := by
  intro p e s m args below meth c0 H locs ls hc hz hP hS hl
  obtain ⟨hx, hb, hml, hown, hts, hK, hret, hlk, hB, hnm⟩ := hc
  exact lv_aload_n hx hb hd hi (hl.2.2 _ _ hv) (k p e s m args below meth c0 H locs ls ⟨hx, hb, hml, hown, hts, hK, hret, hlk, hB, hnm⟩ hz hP hS hl)
theorem r_aload {i : Nat} {x : Nat} (hd : decode (mC M) pc = .ok (.aload i, 2)) (hv : lv[i]? = some (some (.ref x))) (k : VA κ M d' Q d c sl (pc + 2) lv (.ref x :: rest) st) : VA κ M d' Q d c sl pc lv (rest) st := by
  intro p e s m args below meth c0 H locs ls hc hz hP hS hl
  obtain ⟨hx, hb, hml, hown, hts, hK, hret, hlk, hB, hnm⟩ := hc
  exact lv_aload hx hb hd (hl.2.2 _ _ hv) (k p e s m args below meth c0 H locs ls ⟨hx, hb, hml, hown, hts, hK, hret, hlk, hB, hnm⟩ hz hP hS hl)
theorem r_aload_nN {i : Nat} {f : Fin 4} (hd : decode (mC M) pc = .ok (.aload_n f, 1)) (hi : (f : Nat) = i) (hv : lv[i]? = some (some .null)) (k : VA κ M d' Q d c sl (pc + 1) lv (.null :: rest) st) : VA κ M d' Q d c sl pc lv (rest) st := by
  intro p e s m args below meth c0 H locs ls hc hz hP hS hl
  obtain ⟨hx, hb, hml, hown, hts, hK, hret, hlk, hB, hnm⟩ := hc
  exact lv_aload_nN hx hb hd hi (hl.2.2 _ _ hv) (k p e s m args below meth c0 H locs ls ⟨hx, hb, hml, hown, hts, hK, hret, hlk, hB, hnm⟩ hz hP hS hl)
theorem r_aloadN {i : Nat} (hd : decode (mC M) pc = .ok (.aload i, 2)) (hv : lv[i]? = some (some .null)) (k : VA κ M d' Q d c sl (pc + 2) lv (.null :: rest) st) : VA κ M d' Q d c sl pc lv (rest) st := by
  intro p e s m args below meth c0 H locs ls hc hz hP hS hl
  obtain ⟨hx, hb, hml, hown, hts, hK, hret, hlk, hB, hnm⟩ := hc
  exact lv_aloadN hx hb hd (hl.2.2 _ _ hv) (k p e s m args below meth c0 H locs ls ⟨hx, hb, hml, hown, hts, hK, hret, hlk, hB, hnm⟩ hz hP hS hl)
theorem r_iconst {n : Int} {v : Int32} (hd : decode (mC M) pc = .ok (.iconst n, 1)) (hv : Int32.ofInt n = v) (k : VA κ M d' Q d c sl (pc + 1) lv (.int v :: rest) st) : VA κ M d' Q d c sl pc lv (rest) st := by
  intro p e s m args below meth c0 H locs ls hc hz hP hS hl
  obtain ⟨hx, hb, hml, hown, hts, hK, hret, hlk, hB, hnm⟩ := hc
  exact lv_iconst hx hb hd hv (k p e s m args below meth c0 H locs ls ⟨hx, hb, hml, hown, hts, hK, hret, hlk, hB, hnm⟩ hz hP hS hl)
theorem r_lconst {n : Fin 2} {v : Int64} (hd : decode (mC M) pc = .ok (.lconst n, 1)) (hv : Int64.ofNat (n : Nat) = v) (k : VA κ M d' Q d c sl (pc + 1) lv (.long v :: rest) st) : VA κ M d' Q d c sl pc lv (rest) st := by
  intro p e s m args below meth c0 H locs ls hc hz hP hS hl
  obtain ⟨hx, hb, hml, hown, hts, hK, hret, hlk, hB, hnm⟩ := hc
  exact lv_lconst hx hb hd hv (k p e s m args below meth c0 H locs ls ⟨hx, hb, hml, hown, hts, hK, hret, hlk, hB, hnm⟩ hz hP hS hl)
theorem r_bipush {n : Int} {v : Int32} (hd : decode (mC M) pc = .ok (.bipush n, 2)) (hv : (Int8.ofInt n).toInt32 = v) (k : VA κ M d' Q d c sl (pc + 2) lv (.int v :: rest) st) : VA κ M d' Q d c sl pc lv (rest) st := by
  intro p e s m args below meth c0 H locs ls hc hz hP hS hl
  obtain ⟨hx, hb, hml, hown, hts, hK, hret, hlk, hB, hnm⟩ := hc
  exact lv_bipush hx hb hd hv (k p e s m args below meth c0 H locs ls ⟨hx, hb, hml, hown, hts, hK, hret, hlk, hB, hnm⟩ hz hP hS hl)
theorem r_sipush {n : Int} {v : Int32} (hd : decode (mC M) pc = .ok (.sipush n, 3)) (hv : (Int16.ofInt n).toInt32 = v) (k : VA κ M d' Q d c sl (pc + 3) lv (.int v :: rest) st) : VA κ M d' Q d c sl pc lv (rest) st := by
  intro p e s m args below meth c0 H locs ls hc hz hP hS hl
  obtain ⟨hx, hb, hml, hown, hts, hK, hret, hlk, hB, hnm⟩ := hc
  exact lv_sipush hx hb hd hv (k p e s m args below meth c0 H locs ls ⟨hx, hb, hml, hown, hts, hK, hret, hlk, hB, hnm⟩ hz hP hS hl)
theorem r_null  (hd : decode (mC M) pc = .ok (.aconst_null, 1)) (k : VA κ M d' Q d c sl (pc + 1) lv (.null :: rest) st) : VA κ M d' Q d c sl pc lv (rest) st := by
  intro p e s m args below meth c0 H locs ls hc hz hP hS hl
  obtain ⟨hx, hb, hml, hown, hts, hK, hret, hlk, hB, hnm⟩ := hc
  exact lv_null hx hb hd (k p e s m args below meth c0 H locs ls ⟨hx, hb, hml, hown, hts, hK, hret, hlk, hB, hnm⟩ hz hP hS hl)
theorem r_ldc {ix : Nat} {v : Int32} (hd : decode (mC M) pc = .ok (.ldc ix, 2)) (hw : Cond.constant (mY M).cls ix v ∈ Tg) (k : VA κ M d' Q d c sl (pc + 2) lv (.int v :: rest) st) : VA κ M d' Q d c sl pc lv (rest) st := by
  intro p e s m args below meth c0 H locs ls hc hz hP hS hl
  obtain ⟨hx, hb, hml, hown, hts, hK, hret, hlk, hB, hnm⟩ := hc
  exact lv_ldc hx hb hown (hts _ hw) hd (k p e s m args below meth c0 H locs ls ⟨hx, hb, hml, hown, hts, hK, hret, hlk, hB, hnm⟩ hz hP hS hl)
theorem r_ldcw {ix : Nat} {v : Int32} (hd : decode (mC M) pc = .ok (.ldc_w ix, 3)) (hw : Cond.constant (mY M).cls ix v ∈ Tg) (k : VA κ M d' Q d c sl (pc + 3) lv (.int v :: rest) st) : VA κ M d' Q d c sl pc lv (rest) st := by
  intro p e s m args below meth c0 H locs ls hc hz hP hS hl
  obtain ⟨hx, hb, hml, hown, hts, hK, hret, hlk, hB, hnm⟩ := hc
  exact lv_ldcw hx hb hown (hts _ hw) hd (k p e s m args below meth c0 H locs ls ⟨hx, hb, hml, hown, hts, hK, hret, hlk, hB, hnm⟩ hz hP hS hl)
theorem r_ldc2 {ix : Nat} {v : Int64} (hd : decode (mC M) pc = .ok (.ldc2_w ix, 3)) (hw : Cond.constantLong (mY M).cls ix v ∈ Tg) (k : VA κ M d' Q d c sl (pc + 3) lv (.long v :: rest) st) : VA κ M d' Q d c sl pc lv (rest) st := by
  intro p e s m args below meth c0 H locs ls hc hz hP hS hl
  obtain ⟨hx, hb, hml, hown, hts, hK, hret, hlk, hB, hnm⟩ := hc
  exact lv_ldc2 hx hb hown (hts _ hw) hd (k p e s m args below meth c0 H locs ls ⟨hx, hb, hml, hown, hts, hK, hret, hlk, hB, hnm⟩ hz hP hS hl)
theorem r_iadd {x y : Int32} (hd : decode (mC M) pc = .ok (.iadd, 1)) (k : VA κ M d' Q d c sl (pc + 1) lv (.int (x + y) :: rest) st) : VA κ M d' Q d c sl pc lv (.int y :: .int x :: rest) st := by
  intro p e s m args below meth c0 H locs ls hc hz hP hS hl
  obtain ⟨hx, hb, hml, hown, hts, hK, hret, hlk, hB, hnm⟩ := hc
  exact lv_iadd hx hb hd (k p e s m args below meth c0 H locs ls ⟨hx, hb, hml, hown, hts, hK, hret, hlk, hB, hnm⟩ hz hP hS hl)
theorem r_isub {x y : Int32} (hd : decode (mC M) pc = .ok (.isub, 1)) (k : VA κ M d' Q d c sl (pc + 1) lv (.int (x - y) :: rest) st) : VA κ M d' Q d c sl pc lv (.int y :: .int x :: rest) st := by
  intro p e s m args below meth c0 H locs ls hc hz hP hS hl
  obtain ⟨hx, hb, hml, hown, hts, hK, hret, hlk, hB, hnm⟩ := hc
  exact lv_isub hx hb hd (k p e s m args below meth c0 H locs ls ⟨hx, hb, hml, hown, hts, hK, hret, hlk, hB, hnm⟩ hz hP hS hl)
theorem r_imul {x y : Int32} (hd : decode (mC M) pc = .ok (.imul, 1)) (k : VA κ M d' Q d c sl (pc + 1) lv (.int (x * y) :: rest) st) : VA κ M d' Q d c sl pc lv (.int y :: .int x :: rest) st := by
  intro p e s m args below meth c0 H locs ls hc hz hP hS hl
  obtain ⟨hx, hb, hml, hown, hts, hK, hret, hlk, hB, hnm⟩ := hc
  exact lv_imul hx hb hd (k p e s m args below meth c0 H locs ls ⟨hx, hb, hml, hown, hts, hK, hret, hlk, hB, hnm⟩ hz hP hS hl)
theorem r_iand {x y : Int32} (hd : decode (mC M) pc = .ok (.iand, 1)) (k : VA κ M d' Q d c sl (pc + 1) lv (.int (x &&& y) :: rest) st) : VA κ M d' Q d c sl pc lv (.int y :: .int x :: rest) st := by
  intro p e s m args below meth c0 H locs ls hc hz hP hS hl
  obtain ⟨hx, hb, hml, hown, hts, hK, hret, hlk, hB, hnm⟩ := hc
  exact lv_iand hx hb hd (k p e s m args below meth c0 H locs ls ⟨hx, hb, hml, hown, hts, hK, hret, hlk, hB, hnm⟩ hz hP hS hl)
theorem r_ior {x y : Int32} (hd : decode (mC M) pc = .ok (.ior, 1)) (k : VA κ M d' Q d c sl (pc + 1) lv (.int (x ||| y) :: rest) st) : VA κ M d' Q d c sl pc lv (.int y :: .int x :: rest) st := by
  intro p e s m args below meth c0 H locs ls hc hz hP hS hl
  obtain ⟨hx, hb, hml, hown, hts, hK, hret, hlk, hB, hnm⟩ := hc
  exact lv_ior hx hb hd (k p e s m args below meth c0 H locs ls ⟨hx, hb, hml, hown, hts, hK, hret, hlk, hB, hnm⟩ hz hP hS hl)
theorem r_ixor {x y : Int32} (hd : decode (mC M) pc = .ok (.ixor, 1)) (k : VA κ M d' Q d c sl (pc + 1) lv (.int (x ^^^ y) :: rest) st) : VA κ M d' Q d c sl pc lv (.int y :: .int x :: rest) st := by
  intro p e s m args below meth c0 H locs ls hc hz hP hS hl
  obtain ⟨hx, hb, hml, hown, hts, hK, hret, hlk, hB, hnm⟩ := hc
  exact lv_ixor hx hb hd (k p e s m args below meth c0 H locs ls ⟨hx, hb, hml, hown, hts, hK, hret, hlk, hB, hnm⟩ hz hP hS hl)
theorem r_ishl {x y : Int32} (hd : decode (mC M) pc = .ok (.ishl, 1)) (k : VA κ M d' Q d c sl (pc + 1) lv (.int (x <<< (y &&& 31)) :: rest) st) : VA κ M d' Q d c sl pc lv (.int y :: .int x :: rest) st := by
  intro p e s m args below meth c0 H locs ls hc hz hP hS hl
  obtain ⟨hx, hb, hml, hown, hts, hK, hret, hlk, hB, hnm⟩ := hc
  exact lv_ishl hx hb hd (k p e s m args below meth c0 H locs ls ⟨hx, hb, hml, hown, hts, hK, hret, hlk, hB, hnm⟩ hz hP hS hl)
theorem r_ishr {x y : Int32} (hd : decode (mC M) pc = .ok (.ishr, 1)) (k : VA κ M d' Q d c sl (pc + 1) lv (.int (x >>> (y &&& 31)) :: rest) st) : VA κ M d' Q d c sl pc lv (.int y :: .int x :: rest) st := by
  intro p e s m args below meth c0 H locs ls hc hz hP hS hl
  obtain ⟨hx, hb, hml, hown, hts, hK, hret, hlk, hB, hnm⟩ := hc
  exact lv_ishr hx hb hd (k p e s m args below meth c0 H locs ls ⟨hx, hb, hml, hown, hts, hK, hret, hlk, hB, hnm⟩ hz hP hS hl)
theorem r_idiv {x y : Int32} (hd : decode (mC M) pc = .ok (.idiv, 1)) (hne : ¬ y = 0) (k : VA κ M d' Q d c sl (pc + 1) lv (.int (x / y) :: rest) st) : VA κ M d' Q d c sl pc lv (.int y :: .int x :: rest) st := by
  intro p e s m args below meth c0 H locs ls hc hz hP hS hl
  obtain ⟨hx, hb, hml, hown, hts, hK, hret, hlk, hB, hnm⟩ := hc
  exact lv_idiv hx hb hd hne (k p e s m args below meth c0 H locs ls ⟨hx, hb, hml, hown, hts, hK, hret, hlk, hB, hnm⟩ hz hP hS hl)
theorem r_irem {x y : Int32} (hd : decode (mC M) pc = .ok (.irem, 1)) (hne : ¬ y = 0) (k : VA κ M d' Q d c sl (pc + 1) lv (.int (x - x / y * y) :: rest) st) : VA κ M d' Q d c sl pc lv (.int y :: .int x :: rest) st := by
  intro p e s m args below meth c0 H locs ls hc hz hP hS hl
  obtain ⟨hx, hb, hml, hown, hts, hK, hret, hlk, hB, hnm⟩ := hc
  exact lv_irem hx hb hd hne (k p e s m args below meth c0 H locs ls ⟨hx, hb, hml, hown, hts, hK, hret, hlk, hB, hnm⟩ hz hP hS hl)
theorem r_ladd {x y : Int64} (hd : decode (mC M) pc = .ok (.ladd, 1)) (k : VA κ M d' Q d c sl (pc + 1) lv (.long (x + y) :: rest) st) : VA κ M d' Q d c sl pc lv (.long y :: .long x :: rest) st := by
  intro p e s m args below meth c0 H locs ls hc hz hP hS hl
  obtain ⟨hx, hb, hml, hown, hts, hK, hret, hlk, hB, hnm⟩ := hc
  exact lv_ladd hx hb hd (k p e s m args below meth c0 H locs ls ⟨hx, hb, hml, hown, hts, hK, hret, hlk, hB, hnm⟩ hz hP hS hl)
theorem r_lsub {x y : Int64} (hd : decode (mC M) pc = .ok (.lsub, 1)) (k : VA κ M d' Q d c sl (pc + 1) lv (.long (x - y) :: rest) st) : VA κ M d' Q d c sl pc lv (.long y :: .long x :: rest) st := by
  intro p e s m args below meth c0 H locs ls hc hz hP hS hl
  obtain ⟨hx, hb, hml, hown, hts, hK, hret, hlk, hB, hnm⟩ := hc
  exact lv_lsub hx hb hd (k p e s m args below meth c0 H locs ls ⟨hx, hb, hml, hown, hts, hK, hret, hlk, hB, hnm⟩ hz hP hS hl)
theorem r_lmul {x y : Int64} (hd : decode (mC M) pc = .ok (.lmul, 1)) (k : VA κ M d' Q d c sl (pc + 1) lv (.long (x * y) :: rest) st) : VA κ M d' Q d c sl pc lv (.long y :: .long x :: rest) st := by
  intro p e s m args below meth c0 H locs ls hc hz hP hS hl
  obtain ⟨hx, hb, hml, hown, hts, hK, hret, hlk, hB, hnm⟩ := hc
  exact lv_lmul hx hb hd (k p e s m args below meth c0 H locs ls ⟨hx, hb, hml, hown, hts, hK, hret, hlk, hB, hnm⟩ hz hP hS hl)
theorem r_land {x y : Int64} (hd : decode (mC M) pc = .ok (.land, 1)) (k : VA κ M d' Q d c sl (pc + 1) lv (.long (x &&& y) :: rest) st) : VA κ M d' Q d c sl pc lv (.long y :: .long x :: rest) st := by
  intro p e s m args below meth c0 H locs ls hc hz hP hS hl
  obtain ⟨hx, hb, hml, hown, hts, hK, hret, hlk, hB, hnm⟩ := hc
  exact lv_land hx hb hd (k p e s m args below meth c0 H locs ls ⟨hx, hb, hml, hown, hts, hK, hret, hlk, hB, hnm⟩ hz hP hS hl)
theorem r_lor {x y : Int64} (hd : decode (mC M) pc = .ok (.lor, 1)) (k : VA κ M d' Q d c sl (pc + 1) lv (.long (x ||| y) :: rest) st) : VA κ M d' Q d c sl pc lv (.long y :: .long x :: rest) st := by
  intro p e s m args below meth c0 H locs ls hc hz hP hS hl
  obtain ⟨hx, hb, hml, hown, hts, hK, hret, hlk, hB, hnm⟩ := hc
  exact lv_lor hx hb hd (k p e s m args below meth c0 H locs ls ⟨hx, hb, hml, hown, hts, hK, hret, hlk, hB, hnm⟩ hz hP hS hl)
theorem r_ldiv {x y : Int64} (hd : decode (mC M) pc = .ok (.ldiv, 1)) (hne : ¬ y = 0) (k : VA κ M d' Q d c sl (pc + 1) lv (.long (x / y) :: rest) st) : VA κ M d' Q d c sl pc lv (.long y :: .long x :: rest) st := by
  intro p e s m args below meth c0 H locs ls hc hz hP hS hl
  obtain ⟨hx, hb, hml, hown, hts, hK, hret, hlk, hB, hnm⟩ := hc
  exact lv_ldiv hx hb hd hne (k p e s m args below meth c0 H locs ls ⟨hx, hb, hml, hown, hts, hK, hret, hlk, hB, hnm⟩ hz hP hS hl)
theorem r_lrem {x y : Int64} (hd : decode (mC M) pc = .ok (.lrem, 1)) (hne : ¬ y = 0) (k : VA κ M d' Q d c sl (pc + 1) lv (.long (x - x / y * y) :: rest) st) : VA κ M d' Q d c sl pc lv (.long y :: .long x :: rest) st := by
  intro p e s m args below meth c0 H locs ls hc hz hP hS hl
  obtain ⟨hx, hb, hml, hown, hts, hK, hret, hlk, hB, hnm⟩ := hc
  exact lv_lrem hx hb hd hne (k p e s m args below meth c0 H locs ls ⟨hx, hb, hml, hown, hts, hK, hret, hlk, hB, hnm⟩ hz hP hS hl)
theorem r_ineg {x : Int32} (hd : decode (mC M) pc = .ok (.ineg, 1)) (k : VA κ M d' Q d c sl (pc + 1) lv (.int (-x) :: rest) st) : VA κ M d' Q d c sl pc lv (.int x :: rest) st := by
  intro p e s m args below meth c0 H locs ls hc hz hP hS hl
  obtain ⟨hx, hb, hml, hown, hts, hK, hret, hlk, hB, hnm⟩ := hc
  exact lv_ineg hx hb hd (k p e s m args below meth c0 H locs ls ⟨hx, hb, hml, hown, hts, hK, hret, hlk, hB, hnm⟩ hz hP hS hl)
theorem r_iushr {x y : Int32} (hd : decode (mC M) pc = .ok (.iushr, 1)) (k : VA κ M d' Q d c sl (pc + 1) lv (.int (x.toUInt32 >>> (y.toUInt32 &&& Int32.toUInt32 31)).toInt32 :: rest) st) : VA κ M d' Q d c sl pc lv (.int y :: .int x :: rest) st := by
  intro p e s m args below meth c0 H locs ls hc hz hP hS hl
  obtain ⟨hx, hb, hml, hown, hts, hK, hret, hlk, hB, hnm⟩ := hc
  exact lv_iushr hx hb hd rfl (k p e s m args below meth c0 H locs ls ⟨hx, hb, hml, hown, hts, hK, hret, hlk, hB, hnm⟩ hz hP hS hl)
theorem r_lshl {x : Int64} {y : Int32} (hd : decode (mC M) pc = .ok (.lshl, 1)) (k : VA κ M d' Q d c sl (pc + 1) lv (.long (x <<< (y.toInt64 &&& 63)) :: rest) st) : VA κ M d' Q d c sl pc lv (.int y :: .long x :: rest) st := by
  intro p e s m args below meth c0 H locs ls hc hz hP hS hl
  obtain ⟨hx, hb, hml, hown, hts, hK, hret, hlk, hB, hnm⟩ := hc
  exact lv_lshl hx hb hd rfl (k p e s m args below meth c0 H locs ls ⟨hx, hb, hml, hown, hts, hK, hret, hlk, hB, hnm⟩ hz hP hS hl)
theorem r_i2l {x : Int32} (hd : decode (mC M) pc = .ok (.i2l, 1)) (k : VA κ M d' Q d c sl (pc + 1) lv (.long x.toInt64 :: rest) st) : VA κ M d' Q d c sl pc lv (.int x :: rest) st := by
  intro p e s m args below meth c0 H locs ls hc hz hP hS hl
  obtain ⟨hx, hb, hml, hown, hts, hK, hret, hlk, hB, hnm⟩ := hc
  exact lv_i2l hx hb hd rfl (k p e s m args below meth c0 H locs ls ⟨hx, hb, hml, hown, hts, hK, hret, hlk, hB, hnm⟩ hz hP hS hl)
theorem r_l2i {x : Int64} (hd : decode (mC M) pc = .ok (.l2i, 1)) (k : VA κ M d' Q d c sl (pc + 1) lv (.int x.toInt32 :: rest) st) : VA κ M d' Q d c sl pc lv (.long x :: rest) st := by
  intro p e s m args below meth c0 H locs ls hc hz hP hS hl
  obtain ⟨hx, hb, hml, hown, hts, hK, hret, hlk, hB, hnm⟩ := hc
  exact lv_l2i hx hb hd rfl (k p e s m args below meth c0 H locs ls ⟨hx, hb, hml, hown, hts, hK, hret, hlk, hB, hnm⟩ hz hP hS hl)
theorem r_i2b {x : Int32} (hd : decode (mC M) pc = .ok (.i2b, 1)) (k : VA κ M d' Q d c sl (pc + 1) lv (.int x.toInt8.toInt32 :: rest) st) : VA κ M d' Q d c sl pc lv (.int x :: rest) st := by
  intro p e s m args below meth c0 H locs ls hc hz hP hS hl
  obtain ⟨hx, hb, hml, hown, hts, hK, hret, hlk, hB, hnm⟩ := hc
  exact lv_i2b hx hb hd rfl (k p e s m args below meth c0 H locs ls ⟨hx, hb, hml, hown, hts, hK, hret, hlk, hB, hnm⟩ hz hP hS hl)
theorem r_i2c {x : Int32} (hd : decode (mC M) pc = .ok (.i2c, 1)) (k : VA κ M d' Q d c sl (pc + 1) lv (.int (x.toUInt32 % 65536).toInt32 :: rest) st) : VA κ M d' Q d c sl pc lv (.int x :: rest) st := by
  intro p e s m args below meth c0 H locs ls hc hz hP hS hl
  obtain ⟨hx, hb, hml, hown, hts, hK, hret, hlk, hB, hnm⟩ := hc
  exact lv_i2c hx hb hd rfl (k p e s m args below meth c0 H locs ls ⟨hx, hb, hml, hown, hts, hK, hret, hlk, hB, hnm⟩ hz hP hS hl)
theorem r_dup {v : Value} (hd : decode (mC M) pc = .ok (.dup, 1)) (hv : v.category = 1) (k : VA κ M d' Q d c sl (pc + 1) lv (v :: v :: rest) st) : VA κ M d' Q d c sl pc lv (v :: rest) st := by
  intro p e s m args below meth c0 H locs ls hc hz hP hS hl
  obtain ⟨hx, hb, hml, hown, hts, hK, hret, hlk, hB, hnm⟩ := hc
  exact lv_dup hx hb hd hv (k p e s m args below meth c0 H locs ls ⟨hx, hb, hml, hown, hts, hK, hret, hlk, hB, hnm⟩ hz hP hS hl)
theorem r_pop {v : Value} (hd : decode (mC M) pc = .ok (.pop, 1)) (hv : v.category = 1) (k : VA κ M d' Q d c sl (pc + 1) lv (rest) st) : VA κ M d' Q d c sl pc lv (v :: rest) st := by
  intro p e s m args below meth c0 H locs ls hc hz hP hS hl
  obtain ⟨hx, hb, hml, hown, hts, hK, hret, hlk, hB, hnm⟩ := hc
  exact lv_pop hx hb hd hv (k p e s m args below meth c0 H locs ls ⟨hx, hb, hml, hown, hts, hK, hret, hlk, hB, hnm⟩ hz hP hS hl)
theorem r_dup2 {v w : Value} (hd : decode (mC M) pc = .ok (.dup2, 1)) (hv : v.category = 1) (hw : w.category = 1) (k : VA κ M d' Q d c sl (pc + 1) lv (v :: w :: v :: w :: rest) st) : VA κ M d' Q d c sl pc lv (v :: w :: rest) st := by
  intro p e s m args below meth c0 H locs ls hc hz hP hS hl
  obtain ⟨hx, hb, hml, hown, hts, hK, hret, hlk, hB, hnm⟩ := hc
  exact lv_dup2_11 hx hb hd hv hw (k p e s m args below meth c0 H locs ls ⟨hx, hb, hml, hown, hts, hK, hret, hlk, hB, hnm⟩ hz hP hS hl)
theorem r_lcmp {x y : Int64} (hd : decode (mC M) pc = .ok (.lcmp, 1)) (k : VA κ M d' Q d c sl (pc + 1) lv (.int (lg_cmp x y) :: rest) st) : VA κ M d' Q d c sl pc lv (.long y :: .long x :: rest) st := by
  intro p e s m args below meth c0 H locs ls hc hz hP hS hl
  obtain ⟨hx, hb, hml, hown, hts, hK, hret, hlk, hB, hnm⟩ := hc
  exact W.lcmp hx hb hd (k p e s m args below meth c0 H locs ls ⟨hx, hb, hml, hown, hts, hK, hret, hlk, hB, hnm⟩ hz hP hS hl)
theorem r_goto {off : Int} {tgt : Nat} (hd : decode (mC M) pc = .ok (.goto off, 3)) (ht : (pc : Int) + off = (tgt : Int)) (k : VA κ M d' Q d c sl tgt lv (rest) st) : VA κ M d' Q d c sl pc lv (rest) st := by
  intro p e s m args below meth c0 H locs ls hc hz hP hS hl
  obtain ⟨hx, hb, hml, hown, hts, hK, hret, hlk, hB, hnm⟩ := hc
  exact lv_goto hx hb hd ht (k p e s m args below meth c0 H locs ls ⟨hx, hb, hml, hown, hts, hK, hret, hlk, hB, hnm⟩ hz hP hS hl)
theorem r_icmp_eq {x y : Int32} {off : Int} {tgt : Nat} (hd : decode (mC M) pc = .ok (.if_icmp .eq off, 3)) (ht : (pc : Int) + off = (tgt : Int)) (kt : x = y → VA κ M d' Q d c sl tgt lv rest st) (kf : ¬ x = y → VA κ M d' Q d c sl (pc + 3) lv rest st) : VA κ M d' Q d c sl pc lv (.int y :: .int x :: rest) st := by
  intro p e s m args below meth c0 H locs ls hc hz hP hS hl
  obtain ⟨hx, hb, hml, hown, hts, hK, hret, hlk, hB, hnm⟩ := hc
  exact lv_icmp_eq hx hb hd ht (fun z => kt z p e s m args below meth c0 H locs ls ⟨hx, hb, hml, hown, hts, hK, hret, hlk, hB, hnm⟩ hz hP hS hl) (fun z => kf z p e s m args below meth c0 H locs ls ⟨hx, hb, hml, hown, hts, hK, hret, hlk, hB, hnm⟩ hz hP hS hl)
theorem r_if_eq {x : Int32} {off : Int} {tgt : Nat} (hd : decode (mC M) pc = .ok (.ifCond .eq off, 3)) (ht : (pc : Int) + off = (tgt : Int)) (kt : x = 0 → VA κ M d' Q d c sl tgt lv rest st) (kf : ¬ x = 0 → VA κ M d' Q d c sl (pc + 3) lv rest st) : VA κ M d' Q d c sl pc lv (.int x :: rest) st := by
  intro p e s m args below meth c0 H locs ls hc hz hP hS hl
  obtain ⟨hx, hb, hml, hown, hts, hK, hret, hlk, hB, hnm⟩ := hc
  exact lv_if_eq hx hb hd ht (fun z => kt z p e s m args below meth c0 H locs ls ⟨hx, hb, hml, hown, hts, hK, hret, hlk, hB, hnm⟩ hz hP hS hl) (fun z => kf z p e s m args below meth c0 H locs ls ⟨hx, hb, hml, hown, hts, hK, hret, hlk, hB, hnm⟩ hz hP hS hl)
theorem r_icmp_ne {x y : Int32} {off : Int} {tgt : Nat} (hd : decode (mC M) pc = .ok (.if_icmp .ne off, 3)) (ht : (pc : Int) + off = (tgt : Int)) (kt : ¬ x = y → VA κ M d' Q d c sl tgt lv rest st) (kf : x = y → VA κ M d' Q d c sl (pc + 3) lv rest st) : VA κ M d' Q d c sl pc lv (.int y :: .int x :: rest) st := by
  intro p e s m args below meth c0 H locs ls hc hz hP hS hl
  obtain ⟨hx, hb, hml, hown, hts, hK, hret, hlk, hB, hnm⟩ := hc
  exact lv_icmp_ne hx hb hd ht (fun z => kt z p e s m args below meth c0 H locs ls ⟨hx, hb, hml, hown, hts, hK, hret, hlk, hB, hnm⟩ hz hP hS hl) (fun z => kf z p e s m args below meth c0 H locs ls ⟨hx, hb, hml, hown, hts, hK, hret, hlk, hB, hnm⟩ hz hP hS hl)
theorem r_if_ne {x : Int32} {off : Int} {tgt : Nat} (hd : decode (mC M) pc = .ok (.ifCond .ne off, 3)) (ht : (pc : Int) + off = (tgt : Int)) (kt : ¬ x = 0 → VA κ M d' Q d c sl tgt lv rest st) (kf : x = 0 → VA κ M d' Q d c sl (pc + 3) lv rest st) : VA κ M d' Q d c sl pc lv (.int x :: rest) st := by
  intro p e s m args below meth c0 H locs ls hc hz hP hS hl
  obtain ⟨hx, hb, hml, hown, hts, hK, hret, hlk, hB, hnm⟩ := hc
  exact lv_if_ne hx hb hd ht (fun z => kt z p e s m args below meth c0 H locs ls ⟨hx, hb, hml, hown, hts, hK, hret, hlk, hB, hnm⟩ hz hP hS hl) (fun z => kf z p e s m args below meth c0 H locs ls ⟨hx, hb, hml, hown, hts, hK, hret, hlk, hB, hnm⟩ hz hP hS hl)
theorem r_icmp_lt {x y : Int32} {off : Int} {tgt : Nat} (hd : decode (mC M) pc = .ok (.if_icmp .lt off, 3)) (ht : (pc : Int) + off = (tgt : Int)) (kt : x < y → VA κ M d' Q d c sl tgt lv rest st) (kf : ¬ x < y → VA κ M d' Q d c sl (pc + 3) lv rest st) : VA κ M d' Q d c sl pc lv (.int y :: .int x :: rest) st := by
  intro p e s m args below meth c0 H locs ls hc hz hP hS hl
  obtain ⟨hx, hb, hml, hown, hts, hK, hret, hlk, hB, hnm⟩ := hc
  exact lv_icmp_lt hx hb hd ht (fun z => kt z p e s m args below meth c0 H locs ls ⟨hx, hb, hml, hown, hts, hK, hret, hlk, hB, hnm⟩ hz hP hS hl) (fun z => kf z p e s m args below meth c0 H locs ls ⟨hx, hb, hml, hown, hts, hK, hret, hlk, hB, hnm⟩ hz hP hS hl)
theorem r_if_lt {x : Int32} {off : Int} {tgt : Nat} (hd : decode (mC M) pc = .ok (.ifCond .lt off, 3)) (ht : (pc : Int) + off = (tgt : Int)) (kt : x < 0 → VA κ M d' Q d c sl tgt lv rest st) (kf : ¬ x < 0 → VA κ M d' Q d c sl (pc + 3) lv rest st) : VA κ M d' Q d c sl pc lv (.int x :: rest) st := by
  intro p e s m args below meth c0 H locs ls hc hz hP hS hl
  obtain ⟨hx, hb, hml, hown, hts, hK, hret, hlk, hB, hnm⟩ := hc
  exact lv_if_lt hx hb hd ht (fun z => kt z p e s m args below meth c0 H locs ls ⟨hx, hb, hml, hown, hts, hK, hret, hlk, hB, hnm⟩ hz hP hS hl) (fun z => kf z p e s m args below meth c0 H locs ls ⟨hx, hb, hml, hown, hts, hK, hret, hlk, hB, hnm⟩ hz hP hS hl)
theorem r_icmp_ge {x y : Int32} {off : Int} {tgt : Nat} (hd : decode (mC M) pc = .ok (.if_icmp .ge off, 3)) (ht : (pc : Int) + off = (tgt : Int)) (kt : y ≤ x → VA κ M d' Q d c sl tgt lv rest st) (kf : ¬ y ≤ x → VA κ M d' Q d c sl (pc + 3) lv rest st) : VA κ M d' Q d c sl pc lv (.int y :: .int x :: rest) st := by
  intro p e s m args below meth c0 H locs ls hc hz hP hS hl
  obtain ⟨hx, hb, hml, hown, hts, hK, hret, hlk, hB, hnm⟩ := hc
  exact lv_icmp_ge hx hb hd ht (fun z => kt z p e s m args below meth c0 H locs ls ⟨hx, hb, hml, hown, hts, hK, hret, hlk, hB, hnm⟩ hz hP hS hl) (fun z => kf z p e s m args below meth c0 H locs ls ⟨hx, hb, hml, hown, hts, hK, hret, hlk, hB, hnm⟩ hz hP hS hl)
theorem r_if_ge {x : Int32} {off : Int} {tgt : Nat} (hd : decode (mC M) pc = .ok (.ifCond .ge off, 3)) (ht : (pc : Int) + off = (tgt : Int)) (kt : 0 ≤ x → VA κ M d' Q d c sl tgt lv rest st) (kf : ¬ 0 ≤ x → VA κ M d' Q d c sl (pc + 3) lv rest st) : VA κ M d' Q d c sl pc lv (.int x :: rest) st := by
  intro p e s m args below meth c0 H locs ls hc hz hP hS hl
  obtain ⟨hx, hb, hml, hown, hts, hK, hret, hlk, hB, hnm⟩ := hc
  exact lv_if_ge hx hb hd ht (fun z => kt z p e s m args below meth c0 H locs ls ⟨hx, hb, hml, hown, hts, hK, hret, hlk, hB, hnm⟩ hz hP hS hl) (fun z => kf z p e s m args below meth c0 H locs ls ⟨hx, hb, hml, hown, hts, hK, hret, hlk, hB, hnm⟩ hz hP hS hl)
theorem r_icmp_gt {x y : Int32} {off : Int} {tgt : Nat} (hd : decode (mC M) pc = .ok (.if_icmp .gt off, 3)) (ht : (pc : Int) + off = (tgt : Int)) (kt : y < x → VA κ M d' Q d c sl tgt lv rest st) (kf : ¬ y < x → VA κ M d' Q d c sl (pc + 3) lv rest st) : VA κ M d' Q d c sl pc lv (.int y :: .int x :: rest) st := by
  intro p e s m args below meth c0 H locs ls hc hz hP hS hl
  obtain ⟨hx, hb, hml, hown, hts, hK, hret, hlk, hB, hnm⟩ := hc
  exact lv_icmp_gt hx hb hd ht (fun z => kt z p e s m args below meth c0 H locs ls ⟨hx, hb, hml, hown, hts, hK, hret, hlk, hB, hnm⟩ hz hP hS hl) (fun z => kf z p e s m args below meth c0 H locs ls ⟨hx, hb, hml, hown, hts, hK, hret, hlk, hB, hnm⟩ hz hP hS hl)
theorem r_if_gt {x : Int32} {off : Int} {tgt : Nat} (hd : decode (mC M) pc = .ok (.ifCond .gt off, 3)) (ht : (pc : Int) + off = (tgt : Int)) (kt : 0 < x → VA κ M d' Q d c sl tgt lv rest st) (kf : ¬ 0 < x → VA κ M d' Q d c sl (pc + 3) lv rest st) : VA κ M d' Q d c sl pc lv (.int x :: rest) st := by
  intro p e s m args below meth c0 H locs ls hc hz hP hS hl
  obtain ⟨hx, hb, hml, hown, hts, hK, hret, hlk, hB, hnm⟩ := hc
  exact lv_if_gt hx hb hd ht (fun z => kt z p e s m args below meth c0 H locs ls ⟨hx, hb, hml, hown, hts, hK, hret, hlk, hB, hnm⟩ hz hP hS hl) (fun z => kf z p e s m args below meth c0 H locs ls ⟨hx, hb, hml, hown, hts, hK, hret, hlk, hB, hnm⟩ hz hP hS hl)
theorem r_icmp_le {x y : Int32} {off : Int} {tgt : Nat} (hd : decode (mC M) pc = .ok (.if_icmp .le off, 3)) (ht : (pc : Int) + off = (tgt : Int)) (kt : x ≤ y → VA κ M d' Q d c sl tgt lv rest st) (kf : ¬ x ≤ y → VA κ M d' Q d c sl (pc + 3) lv rest st) : VA κ M d' Q d c sl pc lv (.int y :: .int x :: rest) st := by
  intro p e s m args below meth c0 H locs ls hc hz hP hS hl
  obtain ⟨hx, hb, hml, hown, hts, hK, hret, hlk, hB, hnm⟩ := hc
  exact lv_icmp_le hx hb hd ht (fun z => kt z p e s m args below meth c0 H locs ls ⟨hx, hb, hml, hown, hts, hK, hret, hlk, hB, hnm⟩ hz hP hS hl) (fun z => kf z p e s m args below meth c0 H locs ls ⟨hx, hb, hml, hown, hts, hK, hret, hlk, hB, hnm⟩ hz hP hS hl)
theorem r_if_le {x : Int32} {off : Int} {tgt : Nat} (hd : decode (mC M) pc = .ok (.ifCond .le off, 3)) (ht : (pc : Int) + off = (tgt : Int)) (kt : x ≤ 0 → VA κ M d' Q d c sl tgt lv rest st) (kf : ¬ x ≤ 0 → VA κ M d' Q d c sl (pc + 3) lv rest st) : VA κ M d' Q d c sl pc lv (.int x :: rest) st := by
  intro p e s m args below meth c0 H locs ls hc hz hP hS hl
  obtain ⟨hx, hb, hml, hown, hts, hK, hret, hlk, hB, hnm⟩ := hc
  exact lv_if_le hx hb hd ht (fun z => kt z p e s m args below meth c0 H locs ls ⟨hx, hb, hml, hown, hts, hK, hret, hlk, hB, hnm⟩ hz hP hS hl) (fun z => kf z p e s m args below meth c0 H locs ls ⟨hx, hb, hml, hown, hts, hK, hret, hlk, hB, hnm⟩ hz hP hS hl)
theorem lgc_lt {x y : Int64} : lg_cmp x y < 0 ↔ x < y := by
  unfold lg_cmp
  rw [Int64.lt_iff_toInt_lt]
  by_cases h : x > y
  · have h' : y.toInt < x.toInt := Int64.lt_iff_toInt_lt.mp h
    rw [if_pos h]
    exact ⟨fun z => absurd z (by decide), fun z => by omega⟩
  · have h' : ¬ y.toInt < x.toInt := fun z => h (Int64.lt_iff_toInt_lt.mpr z)
    rw [if_neg h]
    by_cases e : x = y
    · rw [if_pos e]
      subst e
      exact ⟨fun z => absurd z (by decide), fun z => by omega⟩
    · have e' : ¬ x.toInt = y.toInt := fun z => e (Int64.toInt_inj.mp z)
      rw [if_neg e]
      exact ⟨fun _ => by omega, fun _ => by decide⟩
theorem lgc_eq {x y : Int64} : lg_cmp x y = 0 ↔ x = y := by
  unfold lg_cmp
  by_cases h : x > y
  · have h' : y.toInt < x.toInt := Int64.lt_iff_toInt_lt.mp h
    rw [if_pos h]
    exact ⟨fun z => absurd z (by decide), fun z => by subst z; omega⟩
  · rw [if_neg h]
    by_cases e : x = y
    · rw [if_pos e]; exact ⟨fun _ => e, fun _ => rfl⟩
    · rw [if_neg e]; exact ⟨fun z => absurd z (by decide), fun z => absurd z e⟩
theorem lgc_gt {x y : Int64} : 0 < lg_cmp x y ↔ y < x := by
  unfold lg_cmp
  by_cases h : x > y
  · rw [if_pos h]; exact ⟨fun _ => h, fun _ => by decide⟩
  · rw [if_neg h]
    by_cases e : x = y
    · rw [if_pos e]; exact ⟨fun z => absurd z (by decide), fun z => absurd z h⟩
    · rw [if_neg e]; exact ⟨fun z => absurd z (by decide), fun z => absurd z h⟩
theorem lgc_ge {x y : Int64} : 0 ≤ lg_cmp x y ↔ y ≤ x := by
  rw [← Int32.not_lt, lgc_lt, Int64.not_lt]
theorem lgc_le {x y : Int64} : lg_cmp x y ≤ 0 ↔ x ≤ y := by
  rw [← Int32.not_lt, lgc_gt, Int64.not_lt]
theorem r_lif_eq {x y : Int64} {off : Int} {tgt : Nat} (hd : decode (mC M) pc = .ok (.lcmp, 1)) (hd2 : decode (mC M) (pc + 1) = .ok (.ifCond .eq off, 3)) (ht : ((pc + 1 : Nat) : Int) + off = (tgt : Int)) (kt : x = y → VA κ M d' Q d c sl tgt lv rest st) (kf : ¬ x = y → VA κ M d' Q d c sl (pc + 1 + 3) lv rest st) : VA κ M d' Q d c sl pc lv (.long y :: .long x :: rest) st := r_lcmp hd (r_if_eq hd2 ht (fun z => kt (lgc_eq.mp z)) (fun z => kf (fun u => z (lgc_eq.mpr u))))
theorem r_lif_ne {x y : Int64} {off : Int} {tgt : Nat} (hd : decode (mC M) pc = .ok (.lcmp, 1)) (hd2 : decode (mC M) (pc + 1) = .ok (.ifCond .ne off, 3)) (ht : ((pc + 1 : Nat) : Int) + off = (tgt : Int)) (kt : ¬ x = y → VA κ M d' Q d c sl tgt lv rest st) (kf : x = y → VA κ M d' Q d c sl (pc + 1 + 3) lv rest st) : VA κ M d' Q d c sl pc lv (.long y :: .long x :: rest) st := r_lcmp hd (r_if_ne hd2 ht (fun z => kt (fun u => z (lgc_eq.mpr u))) (fun z => kf (lgc_eq.mp z)))
theorem r_lif_lt {x y : Int64} {off : Int} {tgt : Nat} (hd : decode (mC M) pc = .ok (.lcmp, 1)) (hd2 : decode (mC M) (pc + 1) = .ok (.ifCond .lt off, 3)) (ht : ((pc + 1 : Nat) : Int) + off = (tgt : Int)) (kt : x < y → VA κ M d' Q d c sl tgt lv rest st) (kf : ¬ x < y → VA κ M d' Q d c sl (pc + 1 + 3) lv rest st) : VA κ M d' Q d c sl pc lv (.long y :: .long x :: rest) st := r_lcmp hd (r_if_lt hd2 ht (fun z => kt (lgc_lt.mp z)) (fun z => kf (fun u => z (lgc_lt.mpr u))))
theorem r_lif_ge {x y : Int64} {off : Int} {tgt : Nat} (hd : decode (mC M) pc = .ok (.lcmp, 1)) (hd2 : decode (mC M) (pc + 1) = .ok (.ifCond .ge off, 3)) (ht : ((pc + 1 : Nat) : Int) + off = (tgt : Int)) (kt : y ≤ x → VA κ M d' Q d c sl tgt lv rest st) (kf : ¬ y ≤ x → VA κ M d' Q d c sl (pc + 1 + 3) lv rest st) : VA κ M d' Q d c sl pc lv (.long y :: .long x :: rest) st := r_lcmp hd (r_if_ge hd2 ht (fun z => kt (lgc_ge.mp z)) (fun z => kf (fun u => z (lgc_ge.mpr u))))
theorem r_lif_gt {x y : Int64} {off : Int} {tgt : Nat} (hd : decode (mC M) pc = .ok (.lcmp, 1)) (hd2 : decode (mC M) (pc + 1) = .ok (.ifCond .gt off, 3)) (ht : ((pc + 1 : Nat) : Int) + off = (tgt : Int)) (kt : y < x → VA κ M d' Q d c sl tgt lv rest st) (kf : ¬ y < x → VA κ M d' Q d c sl (pc + 1 + 3) lv rest st) : VA κ M d' Q d c sl pc lv (.long y :: .long x :: rest) st := r_lcmp hd (r_if_gt hd2 ht (fun z => kt (lgc_gt.mp z)) (fun z => kf (fun u => z (lgc_gt.mpr u))))
theorem r_lif_le {x y : Int64} {off : Int} {tgt : Nat} (hd : decode (mC M) pc = .ok (.lcmp, 1)) (hd2 : decode (mC M) (pc + 1) = .ok (.ifCond .le off, 3)) (ht : ((pc + 1 : Nat) : Int) + off = (tgt : Int)) (kt : x ≤ y → VA κ M d' Q d c sl tgt lv rest st) (kf : ¬ x ≤ y → VA κ M d' Q d c sl (pc + 1 + 3) lv rest st) : VA κ M d' Q d c sl pc lv (.long y :: .long x :: rest) st := r_lcmp hd (r_if_le hd2 ht (fun z => kt (lgc_le.mp z)) (fun z => kf (fun u => z (lgc_le.mpr u))))
/-- a reference or null -/
def rv (v : Value) : Prop := v = .null ∨ ∃ a, v = .ref a
theorem r_ifnull_R {a : Nat} {off : Int} (hd : decode (mC M) pc = .ok (.ifnull off, 3)) (k : VA κ M d' Q d c sl (pc + 3) lv rest st) : VA κ M d' Q d c sl pc lv (.ref a :: rest) st := by
  intro p e s m args below meth c0 H locs ls hc hz hP hS hl
  obtain ⟨hx, hb, hml, hown, hts, hK, hret, hlk, hB, hnm⟩ := hc
  exact lv_ifnull hx hb hd (k p e s m args below meth c0 H locs ls ⟨hx, hb, hml, hown, hts, hK, hret, hlk, hB, hnm⟩ hz hP hS hl)
theorem r_ifnull_N {off : Int} {tgt : Nat} (hd : decode (mC M) pc = .ok (.ifnull off, 3)) (ht : (pc : Int) + off = (tgt : Int)) (k : VA κ M d' Q d c sl tgt lv rest st) : VA κ M d' Q d c sl pc lv (.null :: rest) st := by
  intro p e s m args below meth c0 H locs ls hc hz hP hS hl
  obtain ⟨hx, hb, hml, hown, hts, hK, hret, hlk, hB, hnm⟩ := hc
  exact lv_ifnullN hx hb hd ht (k p e s m args below meth c0 H locs ls ⟨hx, hb, hml, hown, hts, hK, hret, hlk, hB, hnm⟩ hz hP hS hl)
theorem r_ifnonnull_R {a : Nat} {off : Int} {tgt : Nat} (hd : decode (mC M) pc = .ok (.ifnonnull off, 3)) (ht : (pc : Int) + off = (tgt : Int)) (k : VA κ M d' Q d c sl tgt lv rest st) : VA κ M d' Q d c sl pc lv (.ref a :: rest) st := by
  intro p e s m args below meth c0 H locs ls hc hz hP hS hl
  obtain ⟨hx, hb, hml, hown, hts, hK, hret, hlk, hB, hnm⟩ := hc
  exact lv_ifnonnull hx hb hd ht (k p e s m args below meth c0 H locs ls ⟨hx, hb, hml, hown, hts, hK, hret, hlk, hB, hnm⟩ hz hP hS hl)
theorem r_ifnonnull_N {off : Int} (hd : decode (mC M) pc = .ok (.ifnonnull off, 3)) (k : VA κ M d' Q d c sl (pc + 3) lv rest st) : VA κ M d' Q d c sl pc lv (.null :: rest) st := by
  intro p e s m args below meth c0 H locs ls hc hz hP hS hl
  obtain ⟨hx, hb, hml, hown, hts, hK, hret, hlk, hB, hnm⟩ := hc
  exact lv_ifnonnullN hx hb hd (k p e s m args below meth c0 H locs ls ⟨hx, hb, hml, hown, hts, hK, hret, hlk, hB, hnm⟩ hz hP hS hl)
theorem r_tsw_in {dflt lo hi : Int} {offs : Array Int} {len : Nat} {x : Int32} {off : Int} {tgt : Nat} (hd : decode (mC M) pc = .ok (.tableswitch dflt lo hi offs, len)) (h1 : ¬ x.toInt < lo) (h2 : ¬ hi < x.toInt) (ho : offs[(x.toInt - lo).toNat]? = some off) (ht : (pc : Int) + off = (tgt : Int)) (k : VA κ M d' Q d c sl tgt lv rest st) : VA κ M d' Q d c sl pc lv (.int x :: rest) st := by
  intro p e s m args below meth c0 H locs ls hc hz hP hS hl
  obtain ⟨hx, hb, hml, hown, hts, hK, hret, hlk, hB, hnm⟩ := hc
  exact lv_tableIn hx hb hd h1 h2 ho ht (k p e s m args below meth c0 H locs ls ⟨hx, hb, hml, hown, hts, hK, hret, hlk, hB, hnm⟩ hz hP hS hl)
theorem r_tsw_out {dflt lo hi : Int} {offs : Array Int} {len : Nat} {x : Int32} {tgt : Nat} (hd : decode (mC M) pc = .ok (.tableswitch dflt lo hi offs, len)) (h : x.toInt < lo ∨ hi < x.toInt) (ht : (pc : Int) + dflt = (tgt : Int)) (k : VA κ M d' Q d c sl tgt lv rest st) : VA κ M d' Q d c sl pc lv (.int x :: rest) st := by
  intro p e s m args below meth c0 H locs ls hc hz hP hS hl
  obtain ⟨hx, hb, hml, hown, hts, hK, hret, hlk, hB, hnm⟩ := hc
  exact lv_tableOut hx hb hd h ht (k p e s m args below meth c0 H locs ls ⟨hx, hb, hml, hown, hts, hK, hret, hlk, hB, hnm⟩ hz hP hS hl)
/-- the locals behind a store: the place, and what a long ahead of it loses -/
def stp (lv : List (Option Value)) (i : Nat) : List (Option Value) :=
  match i with
   | 0 => lv
   | j + 1 => (match lv[j]? with
     | some (some w) => if w.category = 2 then lv.set j none else lv
     | _ => lv)
def stl (lv : List (Option Value)) (i : Nat) (v : Value) : List (Option Value) := (stp lv i).set i (some v)
def stl2 (lv : List (Option Value)) (i : Nat) (v : Value) : List (Option Value) := (stl lv i v).set (i + 1) none
def lvo (lv : List (Option Value)) : List (Nat × Value) := (List.range lv.length).filterMap (fun i => match lv[i]? with | some (some v) => some (i, v) | _ => none)
theorem lvo_mem {lv : List (Option Value)} {i : Nat} {v : Value} : (i, v) ∈ lvo lv ↔ lv[i]? = some (some v) := by
  unfold lvo
  rw [List.mem_filterMap]
  constructor
  · rintro ⟨j, hj, h⟩
    split at h
    · rename_i w hw
      cases h
      exact hw
    · cases h
  · intro h
    refine ⟨i, List.mem_range.mpr ?_, ?_⟩
    · exact (List.getElem?_eq_some_iff.mp h).1
    · rw [h]
theorem lh_has {ls : Array Slot} {n : Nat} {lv : List (Option Value)} (h : lh ls n lv) : lv_has ls n (lvo lv) := ⟨h.1, h.2.1, fun q hq => h.2.2 q.1 q.2 (lvo_mem.mp hq)⟩
theorem has_lh {ls : Array Slot} {n : Nat} {l : List (Nat × Value)} {lv : List (Option Value)} (h : lv_has ls n l) (hs : ∀ (i : Nat) (v : Value), lv[i]? = some (some v) → (i, v) ∈ l) : lh ls n lv := ⟨h.1, h.2.1, fun i v hv => h.2.2 (i, v) (hs i v hv)⟩
theorem stl_mem {lv : List (Option Value)} {i j : Nat} {v w : Value} (h : (stl lv i v)[j]? = some (some w)) : (j, w) ∈ (i, v) :: (lvo lv).filter (fun q => !(q.1 == i) && !(q.1 + 1 == i && q.2.category == 2)) := by
  unfold stl at h
  rw [List.getElem?_set] at h
  by_cases e : i = j
  · rw [if_pos e] at h
    split at h
    · cases h; rw [e]; exact List.mem_cons_self
    · cases h
  · rw [if_neg e] at h
    unfold stp at h
    refine List.mem_cons_of_mem _ (List.mem_filter.mpr ⟨?_, ?_⟩)
    · apply lvo_mem.mpr
      match i, h with
      | 0, h => exact h
      | k + 1, h =>
        dsimp only at h
        split at h
        · split at h
          · rw [List.getElem?_set] at h
            split at h
            · split at h <;> cases h
            · exact h
          · exact h
        · exact h
    · have e1 : (j == i) = false := by simp; omega
      simp only [e1, Bool.not_false, Bool.true_and]
      match i, h, e with
      | 0, h, e => simp
      | k + 1, h, e =>
        by_cases hjk : j = k
        · subst hjk
          dsimp only at h
          split at h
          · rename_i w0 hw0
            split at h
            · rw [List.getElem?_set, if_pos rfl] at h
              split at h <;> cases h
            · rename_i hc
              rw [hw0] at h
              cases h
              simp [hc]
          · rename_i hn
            exact absurd h (hn w)
        · have : (j + 1 == k + 1) = false := by simp; omega
          rw [this]; rfl
theorem stl2_mem {lv : List (Option Value)} {i j : Nat} {v w : Value} (h : (stl2 lv i v)[j]? = some (some w)) : (j, w) ∈ (i, v) :: (lvo lv).filter (fun q => !(q.1 == i) && (!(q.1 == i + 1) && !(q.1 + 1 == i && q.2.category == 2))) := by
  unfold stl2 at h
  rw [List.getElem?_set] at h
  by_cases e : i + 1 = j
  · rw [if_pos e] at h
    split at h <;> cases h
  · rw [if_neg e] at h
    have h1 := stl_mem h
    rcases List.mem_cons.mp h1 with h2 | h2
    · rw [h2]; exact List.mem_cons_self
    · refine List.mem_cons_of_mem _ ?_
      obtain ⟨a, b⟩ := List.mem_filter.mp h2
      refine List.mem_filter.mpr ⟨a, ?_⟩
      have e1 : (j == i + 1) = false := by simp; omega
      simp only [e1, Bool.not_false, Bool.true_and] at b ⊢
      exact b
theorem r_istore_n {i : Nat} {f : Fin 4} {x : Int32} (hd : decode (mC M) pc = .ok (.istore_n f, 1)) (hi : (f : Nat) = i) (hn : i < mL M) (k : VA κ M d' Q d c sl (pc + 1) (stl lv i (.int x)) rest st) : VA κ M d' Q d c sl pc lv (.int x :: rest) st := by
  intro p e s m args below meth c0 H locs ls hc hz hP hS hl
  obtain ⟨hx, hb, hml, hown, hts, hK, hret, hlk, hB, hnm⟩ := hc
  exact lv_istore_n hx hb hd hi (lh_has hl) hn rfl (fun ls' hl' => k p e s m args below meth c0 H locs ls' ⟨hx, hb, hml, hown, hts, hK, hret, hlk, hB, hnm⟩ hz hP hS (has_lh hl' (fun _ _ h => stl_mem h)))
theorem r_istore {i : Nat} {x : Int32} (hd : decode (mC M) pc = .ok (.istore i, 2)) (hn : i < mL M) (k : VA κ M d' Q d c sl (pc + 2) (stl lv i (.int x)) rest st) : VA κ M d' Q d c sl pc lv (.int x :: rest) st := by
  intro p e s m args below meth c0 H locs ls hc hz hP hS hl
  obtain ⟨hx, hb, hml, hown, hts, hK, hret, hlk, hB, hnm⟩ := hc
  exact lv_istore hx hb hd (lh_has hl) hn rfl (fun ls' hl' => k p e s m args below meth c0 H locs ls' ⟨hx, hb, hml, hown, hts, hK, hret, hlk, hB, hnm⟩ hz hP hS (has_lh hl' (fun _ _ h => stl_mem h)))
theorem r_astore_n {i : Nat} {f : Fin 4} {x : Nat} (hd : decode (mC M) pc = .ok (.astore_n f, 1)) (hi : (f : Nat) = i) (hn : i < mL M) (k : VA κ M d' Q d c sl (pc + 1) (stl lv i (.ref x)) rest st) : VA κ M d' Q d c sl pc lv (.ref x :: rest) st := by
  intro p e s m args below meth c0 H locs ls hc hz hP hS hl
  obtain ⟨hx, hb, hml, hown, hts, hK, hret, hlk, hB, hnm⟩ := hc
  exact lv_astore_n hx hb hd hi (lh_has hl) hn rfl (fun ls' hl' => k p e s m args below meth c0 H locs ls' ⟨hx, hb, hml, hown, hts, hK, hret, hlk, hB, hnm⟩ hz hP hS (has_lh hl' (fun _ _ h => stl_mem h)))
theorem r_astore {i : Nat} {x : Nat} (hd : decode (mC M) pc = .ok (.astore i, 2)) (hn : i < mL M) (k : VA κ M d' Q d c sl (pc + 2) (stl lv i (.ref x)) rest st) : VA κ M d' Q d c sl pc lv (.ref x :: rest) st := by
  intro p e s m args below meth c0 H locs ls hc hz hP hS hl
  obtain ⟨hx, hb, hml, hown, hts, hK, hret, hlk, hB, hnm⟩ := hc
  exact lv_astore hx hb hd (lh_has hl) hn rfl (fun ls' hl' => k p e s m args below meth c0 H locs ls' ⟨hx, hb, hml, hown, hts, hK, hret, hlk, hB, hnm⟩ hz hP hS (has_lh hl' (fun _ _ h => stl_mem h)))
theorem r_lstore_n {i : Nat} {f : Fin 4} {x : Int64} (hd : decode (mC M) pc = .ok (.lstore_n f, 1)) (hi : (f : Nat) = i) (hn : i + 1 < mL M) (k : VA κ M d' Q d c sl (pc + 1) (stl2 lv i (.long x)) rest st) : VA κ M d' Q d c sl pc lv (.long x :: rest) st := by
  intro p e s m args below meth c0 H locs ls hc hz hP hS hl
  obtain ⟨hx, hb, hml, hown, hts, hK, hret, hlk, hB, hnm⟩ := hc
  exact lv_lstore_n hx hb hd hi (lh_has hl) hn rfl (fun ls' hl' => k p e s m args below meth c0 H locs ls' ⟨hx, hb, hml, hown, hts, hK, hret, hlk, hB, hnm⟩ hz hP hS (has_lh hl' (fun _ _ h => stl2_mem h)))
theorem r_lstore {i : Nat} {x : Int64} (hd : decode (mC M) pc = .ok (.lstore i, 2)) (hn : i + 1 < mL M) (k : VA κ M d' Q d c sl (pc + 2) (stl2 lv i (.long x)) rest st) : VA κ M d' Q d c sl pc lv (.long x :: rest) st := by
  intro p e s m args below meth c0 H locs ls hc hz hP hS hl
  obtain ⟨hx, hb, hml, hown, hts, hK, hret, hlk, hB, hnm⟩ := hc
  exact lv_lstore hx hb hd (lh_has hl) hn rfl (fun ls' hl' => k p e s m args below meth c0 H locs ls' ⟨hx, hb, hml, hown, hts, hK, hret, hlk, hB, hnm⟩ hz hP hS (has_lh hl' (fun _ _ h => stl2_mem h)))
theorem r_astore_nN {i : Nat} {f : Fin 4} (hd : decode (mC M) pc = .ok (.astore_n f, 1)) (hi : (f : Nat) = i) (hn : i < mL M) (k : VA κ M d' Q d c sl (pc + 1) (stl lv i .null) rest st) : VA κ M d' Q d c sl pc lv (.null :: rest) st := by
  intro p e s m args below meth c0 H locs ls hc hz hP hS hl
  obtain ⟨hx, hb, hml, hown, hts, hK, hret, hlk, hB, hnm⟩ := hc
  exact lv_astore_nN hx hb hd hi (lh_has hl) hn rfl (fun ls' hl' => k p e s m args below meth c0 H locs ls' ⟨hx, hb, hml, hown, hts, hK, hret, hlk, hB, hnm⟩ hz hP hS (has_lh hl' (fun _ _ h => stl_mem h)))
theorem r_astoreN {i : Nat} (hd : decode (mC M) pc = .ok (.astore i, 2)) (hn : i < mL M) (k : VA κ M d' Q d c sl (pc + 2) (stl lv i .null) rest st) : VA κ M d' Q d c sl pc lv (.null :: rest) st := by
  intro p e s m args below meth c0 H locs ls hc hz hP hS hl
  obtain ⟨hx, hb, hml, hown, hts, hK, hret, hlk, hB, hnm⟩ := hc
  exact lv_astoreN hx hb hd (lh_has hl) hn rfl (fun ls' hl' => k p e s m args below meth c0 H locs ls' ⟨hx, hb, hml, hown, hts, hK, hret, hlk, hB, hnm⟩ hz hP hS (has_lh hl' (fun _ _ h => stl_mem h)))
theorem r_iinc {i : Nat} {n : Int} {x v : Int32} (hd : decode (mC M) pc = .ok (.iinc i n, 3)) (hv : lv[i]? = some (some (.int x))) (he : x + Int32.ofInt n = v) (hn : i < mL M) (k : VA κ M d' Q d c sl (pc + 3) (stl lv i (.int v)) rest st) : VA κ M d' Q d c sl pc lv rest st := by
  intro p e s m args below meth c0 H locs ls hc hz hP hS hl
  obtain ⟨hx, hb, hml, hown, hts, hK, hret, hlk, hB, hnm⟩ := hc
  obtain ⟨kk, hk⟩ := List.getElem?_of_mem (lvo_mem.mpr hv)
  exact lv_iinc hx hb hd (lh_has hl) hk he hn rfl (fun ls' hl' => k p e s m args below meth c0 H locs ls' ⟨hx, hb, hml, hown, hts, hK, hret, hlk, hB, hnm⟩ hz hP hS (has_lh hl' (fun _ _ h => stl_mem h)))
end Rows
