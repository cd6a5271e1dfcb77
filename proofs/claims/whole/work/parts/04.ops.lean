section
variable {Z : kk_Z} {sh : List kk_Sh} {own : String} {cc : ByteArray} {nL : Nat} {ret : Option FieldType} {R : Room} {Qc : kk_Qt} {pc b tgt : Nat} {lv lv' : List (Nat × Value)} {st : List Value} {σ : kk_St} {off : Int}
theorem kk_iadd {x y : Int32} (hd : kk_d cc pc .iadd 1 b) (k : KK Z sh own cc nL ret R Qc b lv (.int (x + y) :: st) σ) : KK Z sh own cc nL ret R Qc pc lv (.int y :: .int x :: st) σ := by
  obtain ⟨hd, rfl⟩ := hd
  intro p e s m args below meth c C H locs ls hP hS hl
  exact lv_iadd C.1 C.2.1 hd  (k p e s m args below meth c C H locs ls hP hS hl)
theorem kk_isub {x y : Int32} (hd : kk_d cc pc .isub 1 b) (k : KK Z sh own cc nL ret R Qc b lv (.int (x - y) :: st) σ) : KK Z sh own cc nL ret R Qc pc lv (.int y :: .int x :: st) σ := by
  obtain ⟨hd, rfl⟩ := hd
  intro p e s m args below meth c C H locs ls hP hS hl
  exact lv_isub C.1 C.2.1 hd  (k p e s m args below meth c C H locs ls hP hS hl)
theorem kk_imul {x y : Int32} (hd : kk_d cc pc .imul 1 b) (k : KK Z sh own cc nL ret R Qc b lv (.int (x * y) :: st) σ) : KK Z sh own cc nL ret R Qc pc lv (.int y :: .int x :: st) σ := by
  obtain ⟨hd, rfl⟩ := hd
  intro p e s m args below meth c C H locs ls hP hS hl
  exact lv_imul C.1 C.2.1 hd  (k p e s m args below meth c C H locs ls hP hS hl)
theorem kk_iand {x y : Int32} (hd : kk_d cc pc .iand 1 b) (k : KK Z sh own cc nL ret R Qc b lv (.int (x &&& y) :: st) σ) : KK Z sh own cc nL ret R Qc pc lv (.int y :: .int x :: st) σ := by
  obtain ⟨hd, rfl⟩ := hd
  intro p e s m args below meth c C H locs ls hP hS hl
  exact lv_iand C.1 C.2.1 hd  (k p e s m args below meth c C H locs ls hP hS hl)
theorem kk_ior {x y : Int32} (hd : kk_d cc pc .ior 1 b) (k : KK Z sh own cc nL ret R Qc b lv (.int (x ||| y) :: st) σ) : KK Z sh own cc nL ret R Qc pc lv (.int y :: .int x :: st) σ := by
  obtain ⟨hd, rfl⟩ := hd
  intro p e s m args below meth c C H locs ls hP hS hl
  exact lv_ior C.1 C.2.1 hd  (k p e s m args below meth c C H locs ls hP hS hl)
theorem kk_ixor {x y : Int32} (hd : kk_d cc pc .ixor 1 b) (k : KK Z sh own cc nL ret R Qc b lv (.int (x ^^^ y) :: st) σ) : KK Z sh own cc nL ret R Qc pc lv (.int y :: .int x :: st) σ := by
  obtain ⟨hd, rfl⟩ := hd
  intro p e s m args below meth c C H locs ls hP hS hl
  exact lv_ixor C.1 C.2.1 hd  (k p e s m args below meth c C H locs ls hP hS hl)
theorem kk_ishl {x y : Int32} (hd : kk_d cc pc .ishl 1 b) (k : KK Z sh own cc nL ret R Qc b lv (.int (x <<< (y &&& 31)) :: st) σ) : KK Z sh own cc nL ret R Qc pc lv (.int y :: .int x :: st) σ := by
  obtain ⟨hd, rfl⟩ := hd
  intro p e s m args below meth c C H locs ls hP hS hl
  exact lv_ishl C.1 C.2.1 hd  (k p e s m args below meth c C H locs ls hP hS hl)
theorem kk_ishr {x y : Int32} (hd : kk_d cc pc .ishr 1 b) (k : KK Z sh own cc nL ret R Qc b lv (.int (x >>> (y &&& 31)) :: st) σ) : KK Z sh own cc nL ret R Qc pc lv (.int y :: .int x :: st) σ := by
  obtain ⟨hd, rfl⟩ := hd
  intro p e s m args below meth c C H locs ls hP hS hl
  exact lv_ishr C.1 C.2.1 hd  (k p e s m args below meth c C H locs ls hP hS hl)
theorem kk_ladd {x y : Int64} (hd : kk_d cc pc .ladd 1 b) (k : KK Z sh own cc nL ret R Qc b lv (.long (x + y) :: st) σ) : KK Z sh own cc nL ret R Qc pc lv (.long y :: .long x :: st) σ := by
  obtain ⟨hd, rfl⟩ := hd
  intro p e s m args below meth c C H locs ls hP hS hl
  exact lv_ladd C.1 C.2.1 hd  (k p e s m args below meth c C H locs ls hP hS hl)
theorem kk_lmul {x y : Int64} (hd : kk_d cc pc .lmul 1 b) (k : KK Z sh own cc nL ret R Qc b lv (.long (x * y) :: st) σ) : KK Z sh own cc nL ret R Qc pc lv (.long y :: .long x :: st) σ := by
  obtain ⟨hd, rfl⟩ := hd
  intro p e s m args below meth c C H locs ls hP hS hl
  exact lv_lmul C.1 C.2.1 hd  (k p e s m args below meth c C H locs ls hP hS hl)
theorem kk_lsub {x y : Int64} (hd : kk_d cc pc .lsub 1 b) (k : KK Z sh own cc nL ret R Qc b lv (.long (x - y) :: st) σ) : KK Z sh own cc nL ret R Qc pc lv (.long y :: .long x :: st) σ := by
  obtain ⟨hd, rfl⟩ := hd
  intro p e s m args below meth c C H locs ls hP hS hl
  exact lv_lsub C.1 C.2.1 hd  (k p e s m args below meth c C H locs ls hP hS hl)
theorem kk_ineg {x : Int32} (hd : kk_d cc pc .ineg 1 b) (k : KK Z sh own cc nL ret R Qc b lv (.int (-x) :: st) σ) : KK Z sh own cc nL ret R Qc pc lv (.int x :: st) σ := by
  obtain ⟨hd, rfl⟩ := hd
  intro p e s m args below meth c C H locs ls hP hS hl
  exact lv_ineg C.1 C.2.1 hd  (k p e s m args below meth c C H locs ls hP hS hl)
def kk_ushr (x y : Int32) : Int32 := (x.toUInt32 >>> (y.toUInt32 &&& Int32.toUInt32 31)).toInt32
theorem kk_iushr {x y : Int32} (hd : kk_d cc pc .iushr 1 b) (k : KK Z sh own cc nL ret R Qc b lv (.int (kk_ushr x y) :: st) σ) : KK Z sh own cc nL ret R Qc pc lv (.int y :: .int x :: st) σ := by
  obtain ⟨hd, rfl⟩ := hd
  intro p e s m args below meth c C H locs ls hP hS hl
  exact lv_iushr C.1 C.2.1 hd rfl (k p e s m args below meth c C H locs ls hP hS hl)
theorem kk_i2l {x : Int32} (hd : kk_d cc pc .i2l 1 b) (k : KK Z sh own cc nL ret R Qc b lv (.long x.toInt64 :: st) σ) : KK Z sh own cc nL ret R Qc pc lv (.int x :: st) σ := by
  obtain ⟨hd, rfl⟩ := hd
  intro p e s m args below meth c C H locs ls hP hS hl
  exact lv_i2l C.1 C.2.1 hd rfl (k p e s m args below meth c C H locs ls hP hS hl)
theorem kk_idiv {x y : Int32} (hy : ¬ y = 0) (hd : kk_d cc pc .idiv 1 b) (k : KK Z sh own cc nL ret R Qc b lv (.int (x / y) :: st) σ) : KK Z sh own cc nL ret R Qc pc lv (.int y :: .int x :: st) σ := by
  obtain ⟨hd, rfl⟩ := hd
  intro p e s m args below meth c C H locs ls hP hS hl
  exact lv_idiv C.1 C.2.1 hd hy (k p e s m args below meth c C H locs ls hP hS hl)
theorem kk_irem {x y : Int32} (hy : ¬ y = 0) (hd : kk_d cc pc .irem 1 b) (k : KK Z sh own cc nL ret R Qc b lv (.int (x - x / y * y) :: st) σ) : KK Z sh own cc nL ret R Qc pc lv (.int y :: .int x :: st) σ := by
  obtain ⟨hd, rfl⟩ := hd
  intro p e s m args below meth c C H locs ls hP hS hl
  exact lv_irem C.1 C.2.1 hd hy (k p e s m args below meth c C H locs ls hP hS hl)
theorem kk_lcmp {x y : Int64} (hd : kk_d cc pc .lcmp 1 b) (k : KK Z sh own cc nL ret R Qc b lv (.int (lg_cmp x y) :: st) σ) : KK Z sh own cc nL ret R Qc pc lv (.long y :: .long x :: st) σ := by
  obtain ⟨hd, rfl⟩ := hd
  intro p e s m args below meth c C H locs ls hP hS hl
  exact W.lcmp C.1 C.2.1 hd  (k p e s m args below meth c C H locs ls hP hS hl)
theorem kk_dup {va : Value} (hv : va.category = 1) (hd : kk_d cc pc .dup 1 b) (k : KK Z sh own cc nL ret R Qc b lv (va :: va :: st) σ) : KK Z sh own cc nL ret R Qc pc lv (va :: st) σ := by
  obtain ⟨hd, rfl⟩ := hd
  intro p e s m args below meth c C H locs ls hP hS hl
  exact lv_dup C.1 C.2.1 hd hv (k p e s m args below meth c C H locs ls hP hS hl)
theorem kk_dup2 {va vb : Value} (hv : va.category = 1) (hw : vb.category = 1) (hd : kk_d cc pc .dup2 1 b) (k : KK Z sh own cc nL ret R Qc b lv (va :: vb :: va :: vb :: st) σ) : KK Z sh own cc nL ret R Qc pc lv (va :: vb :: st) σ := by
  obtain ⟨hd, rfl⟩ := hd
  intro p e s m args below meth c C H locs ls hP hS hl
  exact lv_dup2_11 C.1 C.2.1 hd hv hw (k p e s m args below meth c C H locs ls hP hS hl)
theorem kk_iconst {n : Int} {v : Int32} (hv : Int32.ofInt n = v) (hd : kk_d cc pc (.iconst n) 1 b) (k : KK Z sh own cc nL ret R Qc b lv (.int v :: st) σ) : KK Z sh own cc nL ret R Qc pc lv (st) σ := by
  obtain ⟨hd, rfl⟩ := hd
  intro p e s m args below meth c C H locs ls hP hS hl
  exact lv_iconst C.1 C.2.1 hd hv (k p e s m args below meth c C H locs ls hP hS hl)
theorem kk_bipush {n : Int} {v : Int32} (hv : (Int8.ofInt n).toInt32 = v) (hd : kk_d cc pc (.bipush n) 2 b) (k : KK Z sh own cc nL ret R Qc b lv (.int v :: st) σ) : KK Z sh own cc nL ret R Qc pc lv (st) σ := by
  obtain ⟨hd, rfl⟩ := hd
  intro p e s m args below meth c C H locs ls hP hS hl
  exact lv_bipush C.1 C.2.1 hd hv (k p e s m args below meth c C H locs ls hP hS hl)
theorem kk_sipush {n : Int} {v : Int32} (hv : (Int16.ofInt n).toInt32 = v) (hd : kk_d cc pc (.sipush n) 3 b) (k : KK Z sh own cc nL ret R Qc b lv (.int v :: st) σ) : KK Z sh own cc nL ret R Qc pc lv (st) σ := by
  obtain ⟨hd, rfl⟩ := hd
  intro p e s m args below meth c C H locs ls hP hS hl
  exact lv_sipush C.1 C.2.1 hd hv (k p e s m args below meth c C H locs ls hP hS hl)
theorem kk_lconst {n : Fin 2} {v : Int64} (hv : Int64.ofNat (n : Nat) = v) (hd : kk_d cc pc (.lconst n) 1 b) (k : KK Z sh own cc nL ret R Qc b lv (.long v :: st) σ) : KK Z sh own cc nL ret R Qc pc lv (st) σ := by
  obtain ⟨hd, rfl⟩ := hd
  intro p e s m args below meth c C H locs ls hP hS hl
  exact lv_lconst C.1 C.2.1 hd hv (k p e s m args below meth c C H locs ls hP hS hl)
theorem kk_iload_n {q : Fin 4} {x : Int32} (j : Nat) (hj : lv[j]? = some ((q : Nat), .int x)) (hd : kk_d cc pc (.iload_n q) 1 b) (k : KK Z sh own cc nL ret R Qc b lv (.int x :: st) σ) : KK Z sh own cc nL ret R Qc pc lv (st) σ := by
  obtain ⟨hd, rfl⟩ := hd
  intro p e s m args below meth c C H locs ls hP hS hl
  exact lv_iload_n C.1 C.2.1 hd rfl (lv_at hl j hj) (k p e s m args below meth c C H locs ls hP hS hl)
theorem kk_iload {i : Nat} {x : Int32} (j : Nat) (hj : lv[j]? = some (i, .int x)) (hd : kk_d cc pc (.iload i) 2 b) (k : KK Z sh own cc nL ret R Qc b lv (.int x :: st) σ) : KK Z sh own cc nL ret R Qc pc lv (st) σ := by
  obtain ⟨hd, rfl⟩ := hd
  intro p e s m args below meth c C H locs ls hP hS hl
  exact lv_iload C.1 C.2.1 hd (lv_at hl j hj) (k p e s m args below meth c C H locs ls hP hS hl)
theorem kk_aload_n {q : Fin 4} {x : Nat} (j : Nat) (hj : lv[j]? = some ((q : Nat), .ref x)) (hd : kk_d cc pc (.aload_n q) 1 b) (k : KK Z sh own cc nL ret R Qc b lv (.ref x :: st) σ) : KK Z sh own cc nL ret R Qc pc lv (st) σ := by
  obtain ⟨hd, rfl⟩ := hd
  intro p e s m args below meth c C H locs ls hP hS hl
  exact lv_aload_n C.1 C.2.1 hd rfl (lv_at hl j hj) (k p e s m args below meth c C H locs ls hP hS hl)
theorem kk_aload {i : Nat} {x : Nat} (j : Nat) (hj : lv[j]? = some (i, .ref x)) (hd : kk_d cc pc (.aload i) 2 b) (k : KK Z sh own cc nL ret R Qc b lv (.ref x :: st) σ) : KK Z sh own cc nL ret R Qc pc lv (st) σ := by
  obtain ⟨hd, rfl⟩ := hd
  intro p e s m args below meth c C H locs ls hP hS hl
  exact lv_aload C.1 C.2.1 hd (lv_at hl j hj) (k p e s m args below meth c C H locs ls hP hS hl)
theorem kk_lload_n {q : Fin 4} {x : Int64} (j : Nat) (hj : lv[j]? = some ((q : Nat), .long x)) (hd : kk_d cc pc (.lload_n q) 1 b) (k : KK Z sh own cc nL ret R Qc b lv (.long x :: st) σ) : KK Z sh own cc nL ret R Qc pc lv (st) σ := by
  obtain ⟨hd, rfl⟩ := hd
  intro p e s m args below meth c C H locs ls hP hS hl
  exact lv_lload_n C.1 C.2.1 hd rfl (lv_at hl j hj) (k p e s m args below meth c C H locs ls hP hS hl)
theorem kk_lload {i : Nat} {x : Int64} (j : Nat) (hj : lv[j]? = some (i, .long x)) (hd : kk_d cc pc (.lload i) 2 b) (k : KK Z sh own cc nL ret R Qc b lv (.long x :: st) σ) : KK Z sh own cc nL ret R Qc pc lv (st) σ := by
  obtain ⟨hd, rfl⟩ := hd
  intro p e s m args below meth c C H locs ls hP hS hl
  exact lv_lload C.1 C.2.1 hd (lv_at hl j hj) (k p e s m args below meth c C H locs ls hP hS hl)
theorem kk_istore_n {q : Fin 4} {i : Nat} {x : Int32} (hd : kk_d cc pc (.istore_n q) 1 b) (hi : (q : Nat) = i) (hn : i < nL) (hl' : (i, Value.int x) :: lv.filter (fun q => !(q.1 == i) && !(q.1 + 1 == i && q.2.category == 2)) = lv') (k : KK Z sh own cc nL ret R Qc b lv' (st) σ) : KK Z sh own cc nL ret R Qc pc lv (.int x :: st) σ := by
  obtain ⟨hd, rfl⟩ := hd
  intro p e s m args below meth c C H locs ls hP hS hl
  exact lv_istore_n C.1 C.2.1 hd hi hl hn hl' (fun ls hl => k p e s m args below meth c C H locs ls hP hS hl)
theorem kk_istore {i : Nat} {x : Int32} (hd : kk_d cc pc (.istore i) 2 b) (hn : i < nL) (hl' : (i, Value.int x) :: lv.filter (fun q => !(q.1 == i) && !(q.1 + 1 == i && q.2.category == 2)) = lv') (k : KK Z sh own cc nL ret R Qc b lv' (st) σ) : KK Z sh own cc nL ret R Qc pc lv (.int x :: st) σ := by
  obtain ⟨hd, rfl⟩ := hd
  intro p e s m args below meth c C H locs ls hP hS hl
  exact lv_istore C.1 C.2.1 hd hl hn hl' (fun ls hl => k p e s m args below meth c C H locs ls hP hS hl)
theorem kk_lstore_n {q : Fin 4} {i : Nat} {x : Int64} (hd : kk_d cc pc (.lstore_n q) 1 b) (hi : (q : Nat) = i) (hn : i + 1 < nL) (hl' : (i, Value.long x) :: lv.filter (fun q => !(q.1 == i) && (!(q.1 == i + 1) && !(q.1 + 1 == i && q.2.category == 2))) = lv') (k : KK Z sh own cc nL ret R Qc b lv' (st) σ) : KK Z sh own cc nL ret R Qc pc lv (.long x :: st) σ := by
  obtain ⟨hd, rfl⟩ := hd
  intro p e s m args below meth c C H locs ls hP hS hl
  exact lv_lstore_n C.1 C.2.1 hd hi hl hn hl' (fun ls hl => k p e s m args below meth c C H locs ls hP hS hl)
theorem kk_lstore {i : Nat} {x : Int64} (hd : kk_d cc pc (.lstore i) 2 b) (hn : i + 1 < nL) (hl' : (i, Value.long x) :: lv.filter (fun q => !(q.1 == i) && (!(q.1 == i + 1) && !(q.1 + 1 == i && q.2.category == 2))) = lv') (k : KK Z sh own cc nL ret R Qc b lv' (st) σ) : KK Z sh own cc nL ret R Qc pc lv (.long x :: st) σ := by
  obtain ⟨hd, rfl⟩ := hd
  intro p e s m args below meth c C H locs ls hP hS hl
  exact lv_lstore C.1 C.2.1 hd hl hn hl' (fun ls hl => k p e s m args below meth c C H locs ls hP hS hl)
theorem kk_iinc {i j : Nat} {n : Int} {x v : Int32} (hd : kk_d cc pc (.iinc i n) 3 b) (hj : lv[j]? = some (i, .int x)) (hv : x + Int32.ofInt n = v) (hn : i < nL) (hl' : (i, Value.int v) :: lv.filter (fun q => !(q.1 == i) && !(q.1 + 1 == i && q.2.category == 2)) = lv') (k : KK Z sh own cc nL ret R Qc b lv' (st) σ) : KK Z sh own cc nL ret R Qc pc lv (st) σ := by
  obtain ⟨hd, rfl⟩ := hd
  intro p e s m args below meth c C H locs ls hP hS hl
  exact lv_iinc C.1 C.2.1 hd hl hj hv hn hl' (fun ls hl => k p e s m args below meth c C H locs ls hP hS hl)
theorem kk_sub (ks : List Nat) (h : lv_pick lv ks = lv') (k : KK Z sh own cc nL ret R Qc pc lv' (st) σ) : KK Z sh own cc nL ret R Qc pc lv (st) σ := by
  intro p e s m args below meth c C H locs ls hP hS hl
  exact k p e s m args below meth c C H locs ls hP hS (lv_sub hl ks h)
theorem kk_goto (hd : kk_dj cc pc (.goto off) 3 off b tgt) (k : KK Z sh own cc nL ret R Qc tgt lv (st) σ) : KK Z sh own cc nL ret R Qc pc lv (st) σ := by
  obtain ⟨hd, rfl, ht⟩ := hd
  intro p e s m args below meth c C H locs ls hP hS hl
  exact lv_goto C.1 C.2.1 hd ht (k p e s m args below meth c C H locs ls hP hS hl)
theorem kk_if_eq {x : Int32} (hd : kk_dj cc pc (.ifCond .eq off) 3 off b tgt) (kt : x = 0 → KK Z sh own cc nL ret R Qc tgt lv (st) σ) (kf : ¬ x = 0 → KK Z sh own cc nL ret R Qc b lv (st) σ) : KK Z sh own cc nL ret R Qc pc lv (.int x :: st) σ := by
  obtain ⟨hd, rfl, ht⟩ := hd
  intro p e s m args below meth c C H locs ls hP hS hl
  exact lv_if_eq C.1 C.2.1 hd ht (fun z => kt z p e s m args below meth c C H locs ls hP hS hl) (fun z => kf z p e s m args below meth c C H locs ls hP hS hl)
theorem kk_icmp_eq {x y : Int32} (hd : kk_dj cc pc (.if_icmp .eq off) 3 off b tgt) (kt : x = y → KK Z sh own cc nL ret R Qc tgt lv (st) σ) (kf : ¬ x = y → KK Z sh own cc nL ret R Qc b lv (st) σ) : KK Z sh own cc nL ret R Qc pc lv (.int y :: .int x :: st) σ := by
  obtain ⟨hd, rfl, ht⟩ := hd
  intro p e s m args below meth c C H locs ls hP hS hl
  exact lv_icmp_eq C.1 C.2.1 hd ht (fun z => kt z p e s m args below meth c C H locs ls hP hS hl) (fun z => kf z p e s m args below meth c C H locs ls hP hS hl)
theorem kk_if_ne {x : Int32} (hd : kk_dj cc pc (.ifCond .ne off) 3 off b tgt) (kt : ¬ x = 0 → KK Z sh own cc nL ret R Qc tgt lv (st) σ) (kf : x = 0 → KK Z sh own cc nL ret R Qc b lv (st) σ) : KK Z sh own cc nL ret R Qc pc lv (.int x :: st) σ := by
  obtain ⟨hd, rfl, ht⟩ := hd
  intro p e s m args below meth c C H locs ls hP hS hl
  exact lv_if_ne C.1 C.2.1 hd ht (fun z => kt z p e s m args below meth c C H locs ls hP hS hl) (fun z => kf z p e s m args below meth c C H locs ls hP hS hl)
theorem kk_icmp_ne {x y : Int32} (hd : kk_dj cc pc (.if_icmp .ne off) 3 off b tgt) (kt : ¬ x = y → KK Z sh own cc nL ret R Qc tgt lv (st) σ) (kf : x = y → KK Z sh own cc nL ret R Qc b lv (st) σ) : KK Z sh own cc nL ret R Qc pc lv (.int y :: .int x :: st) σ := by
  obtain ⟨hd, rfl, ht⟩ := hd
  intro p e s m args below meth c C H locs ls hP hS hl
  exact lv_icmp_ne C.1 C.2.1 hd ht (fun z => kt z p e s m args below meth c C H locs ls hP hS hl) (fun z => kf z p e s m args below meth c C H locs ls hP hS hl)
theorem kk_if_lt {x : Int32} (hd : kk_dj cc pc (.ifCond .lt off) 3 off b tgt) (kt : x < 0 → KK Z sh own cc nL ret R Qc tgt lv (st) σ) (kf : ¬ x < 0 → KK Z sh own cc nL ret R Qc b lv (st) σ) : KK Z sh own cc nL ret R Qc pc lv (.int x :: st) σ := by
  obtain ⟨hd, rfl, ht⟩ := hd
  intro p e s m args below meth c C H locs ls hP hS hl
  exact lv_if_lt C.1 C.2.1 hd ht (fun z => kt z p e s m args below meth c C H locs ls hP hS hl) (fun z => kf z p e s m args below meth c C H locs ls hP hS hl)
theorem kk_icmp_lt {x y : Int32} (hd : kk_dj cc pc (.if_icmp .lt off) 3 off b tgt) (kt : x < y → KK Z sh own cc nL ret R Qc tgt lv (st) σ) (kf : ¬ x < y → KK Z sh own cc nL ret R Qc b lv (st) σ) : KK Z sh own cc nL ret R Qc pc lv (.int y :: .int x :: st) σ := by
  obtain ⟨hd, rfl, ht⟩ := hd
  intro p e s m args below meth c C H locs ls hP hS hl
  exact lv_icmp_lt C.1 C.2.1 hd ht (fun z => kt z p e s m args below meth c C H locs ls hP hS hl) (fun z => kf z p e s m args below meth c C H locs ls hP hS hl)
theorem kk_if_ge {x : Int32} (hd : kk_dj cc pc (.ifCond .ge off) 3 off b tgt) (kt : 0 ≤ x → KK Z sh own cc nL ret R Qc tgt lv (st) σ) (kf : ¬ 0 ≤ x → KK Z sh own cc nL ret R Qc b lv (st) σ) : KK Z sh own cc nL ret R Qc pc lv (.int x :: st) σ := by
  obtain ⟨hd, rfl, ht⟩ := hd
  intro p e s m args below meth c C H locs ls hP hS hl
  exact lv_if_ge C.1 C.2.1 hd ht (fun z => kt z p e s m args below meth c C H locs ls hP hS hl) (fun z => kf z p e s m args below meth c C H locs ls hP hS hl)
theorem kk_icmp_ge {x y : Int32} (hd : kk_dj cc pc (.if_icmp .ge off) 3 off b tgt) (kt : y ≤ x → KK Z sh own cc nL ret R Qc tgt lv (st) σ) (kf : ¬ y ≤ x → KK Z sh own cc nL ret R Qc b lv (st) σ) : KK Z sh own cc nL ret R Qc pc lv (.int y :: .int x :: st) σ := by
  obtain ⟨hd, rfl, ht⟩ := hd
  intro p e s m args below meth c C H locs ls hP hS hl
  exact lv_icmp_ge C.1 C.2.1 hd ht (fun z => kt z p e s m args below meth c C H locs ls hP hS hl) (fun z => kf z p e s m args below meth c C H locs ls hP hS hl)
theorem kk_if_gt {x : Int32} (hd : kk_dj cc pc (.ifCond .gt off) 3 off b tgt) (kt : 0 < x → KK Z sh own cc nL ret R Qc tgt lv (st) σ) (kf : ¬ 0 < x → KK Z sh own cc nL ret R Qc b lv (st) σ) : KK Z sh own cc nL ret R Qc pc lv (.int x :: st) σ := by
  obtain ⟨hd, rfl, ht⟩ := hd
  intro p e s m args below meth c C H locs ls hP hS hl
  exact lv_if_gt C.1 C.2.1 hd ht (fun z => kt z p e s m args below meth c C H locs ls hP hS hl) (fun z => kf z p e s m args below meth c C H locs ls hP hS hl)
theorem kk_icmp_gt {x y : Int32} (hd : kk_dj cc pc (.if_icmp .gt off) 3 off b tgt) (kt : y < x → KK Z sh own cc nL ret R Qc tgt lv (st) σ) (kf : ¬ y < x → KK Z sh own cc nL ret R Qc b lv (st) σ) : KK Z sh own cc nL ret R Qc pc lv (.int y :: .int x :: st) σ := by
  obtain ⟨hd, rfl, ht⟩ := hd
  intro p e s m args below meth c C H locs ls hP hS hl
  exact lv_icmp_gt C.1 C.2.1 hd ht (fun z => kt z p e s m args below meth c C H locs ls hP hS hl) (fun z => kf z p e s m args below meth c C H locs ls hP hS hl)
theorem kk_if_le {x : Int32} (hd : kk_dj cc pc (.ifCond .le off) 3 off b tgt) (kt : x ≤ 0 → KK Z sh own cc nL ret R Qc tgt lv (st) σ) (kf : ¬ x ≤ 0 → KK Z sh own cc nL ret R Qc b lv (st) σ) : KK Z sh own cc nL ret R Qc pc lv (.int x :: st) σ := by
  obtain ⟨hd, rfl, ht⟩ := hd
  intro p e s m args below meth c C H locs ls hP hS hl
  exact lv_if_le C.1 C.2.1 hd ht (fun z => kt z p e s m args below meth c C H locs ls hP hS hl) (fun z => kf z p e s m args below meth c C H locs ls hP hS hl)
theorem kk_icmp_le {x y : Int32} (hd : kk_dj cc pc (.if_icmp .le off) 3 off b tgt) (kt : x ≤ y → KK Z sh own cc nL ret R Qc tgt lv (st) σ) (kf : ¬ x ≤ y → KK Z sh own cc nL ret R Qc b lv (st) σ) : KK Z sh own cc nL ret R Qc pc lv (.int y :: .int x :: st) σ := by
  obtain ⟨hd, rfl, ht⟩ := hd
  intro p e s m args below meth c C H locs ls hP hS hl
  exact lv_icmp_le C.1 C.2.1 hd ht (fun z => kt z p e s m args below meth c C H locs ls hP hS hl) (fun z => kf z p e s m args below meth c C H locs ls hP hS hl)
theorem kk_topi {x : Int32} (k : ∀ y : Int32, y = x → KK Z sh own cc nL ret R Qc pc lv (.int y :: st) σ) : KK Z sh own cc nL ret R Qc pc lv (.int x :: st) σ := k x rfl
theorem kk_topl {x : Int64} (k : ∀ y : Int64, y = x → KK Z sh own cc nL ret R Qc pc lv (.long y :: st) σ) : KK Z sh own cc nL ret R Qc pc lv (.long x :: st) σ := k x rfl
theorem kk_ldc {i : Nat} {v : Int32} (hd : kk_d cc pc (.ldc i) 2 b) (hw : Cond.constant own i v ∈ kk_good) (k : KK Z sh own cc nL ret R Qc b lv (.int v :: st) σ) : KK Z sh own cc nL ret R Qc pc lv (st) σ := by
  obtain ⟨hd, rfl⟩ := hd
  intro p e s m args below meth c C H locs ls hP hS hl
  exact lv_ldc C.1 C.2.1 C.2.2.2.2.1 (C.2.2.2.2.2.1 _ hw) hd (k p e s m args below meth c C H locs ls hP hS hl)
theorem kk_ldcw {i : Nat} {v : Int32} (hd : kk_d cc pc (.ldc_w i) 3 b) (hw : Cond.constant own i v ∈ kk_good) (k : KK Z sh own cc nL ret R Qc b lv (.int v :: st) σ) : KK Z sh own cc nL ret R Qc pc lv (st) σ := by
  obtain ⟨hd, rfl⟩ := hd
  intro p e s m args below meth c C H locs ls hP hS hl
  exact lv_ldcw C.1 C.2.1 C.2.2.2.2.1 (C.2.2.2.2.2.1 _ hw) hd (k p e s m args below meth c C H locs ls hP hS hl)
theorem kk_ldc2 {i : Nat} {v : Int64} (hd : kk_d cc pc (.ldc2_w i) 3 b) (hw : Cond.constantLong own i v ∈ kk_good) (k : KK Z sh own cc nL ret R Qc b lv (.long v :: st) σ) : KK Z sh own cc nL ret R Qc pc lv (st) σ := by
  obtain ⟨hd, rfl⟩ := hd
  intro p e s m args below meth c C H locs ls hP hS hl
  exact lv_ldc2 C.1 C.2.1 C.2.2.2.2.1 (C.2.2.2.2.2.1 _ hw) hd (k p e s m args below meth c C H locs ls hP hS hl)
theorem kk_swc (x : Int32) (n : Nat) (hn : n < 2 ^ 31) : (∃ i, i < n ∧ x = nI i) ∨ (x.toInt < 0 ∨ (n : Int) ≤ x.toInt) := by
  by_cases h0 : x < 0
  · right; left
    exact Int32.lt_iff_toInt_lt.mp h0
  · obtain ⟨j, hj, rfl⟩ := nI_of h0
    rw [nI_toInt hj]
    by_cases h : j < n
    · exact Or.inl ⟨j, h, rfl⟩
    · right; right; omega
theorem kk_swIn {dflt hi : Int} {offs : Array Int} {len : Nat} {x : Int32} (hd : decode cc pc = .ok (.tableswitch dflt 0 hi offs, len)) (i : Nat) (hx : x = nI i) (hi' : (i : Int) ≤ hi) (hs : i < 1000) (ho : offs[i]? = some off) (ht : (pc : Int) + off = (tgt : Int)) (k : KK Z sh own cc nL ret R Qc tgt lv (st) σ) : KK Z sh own cc nL ret R Qc pc lv (.int x :: st) σ := by
  intro p e s m args below meth c C H locs ls hP hS hl
  have hxi : x.toInt = (i : Int) := by rw [hx, nI_toInt (by omega)]
  exact lv_tableIn C.1 C.2.1 hd (by rw [hxi]; omega) (by rw [hxi]; omega) (by rw [hxi]; simpa using ho) ht (k p e s m args below meth c C H locs ls hP hS hl)
theorem kk_swOut {dflt hi : Int} {offs : Array Int} {len : Nat} {x : Int32} (hd : decode cc pc = .ok (.tableswitch dflt 0 hi offs, len)) (hx : x.toInt < 0 ∨ hi < x.toInt) (ht : (pc : Int) + dflt = (tgt : Int)) (k : KK Z sh own cc nL ret R Qc tgt lv (st) σ) : KK Z sh own cc nL ret R Qc pc lv (.int x :: st) σ := by
  intro p e s m args below meth c C H locs ls hP hS hl
  exact lv_tableOut C.1 C.2.1 hd hx ht (k p e s m args below meth c C H locs ls hP hS hl)
/-- a field's link: own class, entry, class number, place of the field; by itself or by the nest -/
def kk_FL (own : String) (idx ci j : Nat) (ty : FieldType) : Prop := ∃ (C : String) (T : u_T) (N : Nat) (ty0 : Nat → FieldType), vwCl[ci]? = some (C, T, N) ∧ j < N ∧ (∀ w ∈ u_ws C T N, w ∈ kk_good) ∧ (∀ k, k < N → parseFieldDescriptor (T k).2.2.1 = some (ty0 k)) ∧ (∀ a, a < N → ∀ b, b < N → a ≠ b → (T a).2.1 ≠ (T b).2.1) ∧ (T j).1 = C ∧ parseFieldDescriptor (T j).2.2.1 = some ty ∧ (Cond.fieldLink own idx C (T j).2.1 (T j).2.2.1 ∈ kk_good ∨ ∃ host, Cond.fieldLinkNest own idx C (T j).2.1 (T j).2.2.1 host ∈ kk_nest)
def kk_FN (ci j : Nat) : Prop := ∃ (C : String) (T : u_T) (N : Nat), vwCl[ci]? = some (C, T, N) ∧ (T j).2.2.2 = false
theorem kk_getv {idx ci j : Nat} {ty : FieldType} {fs : List kk_Fd} {v : Value} (hd : kk_d cc pc (.getfield idx) 3 b) (hf : kk_FL own idx ci j ty) (k0 : Nat) (hs : sh[k0]? = some (.inr (ci, fs))) (hv : (kk_fvs Z.2.1 (σ.1 k0) 0 fs)[j]? = some v) (k : KK Z sh own cc nL ret R Qc b lv (v :: st) σ) : KK Z sh own cc nL ret R Qc pc lv (.ref (Z.2.1 k0) :: st) σ := by
  obtain ⟨hd, rfl⟩ := hd
  intro p e s m args below meth c C H locs ls hP hS hl
  obtain ⟨C', T, N, ty0, hc, hj, hin, hty, hnm, hTC, hdsc, hlink⟩ := hf
  rcases hlink with h | ⟨host, h⟩
  · exact va_get C.1 C.2.1 C.2.2.2.2.2.1 hin C.2.2.2.2.1 C.2.2.2.2.2.2.2.1 hP k0 (kk_ws_get hs) hc j hj (C.2.2.2.2.2.1 _ h) (fun _ h9 => by rw [hTC] at h9; exact h9) hv hd (k p e s m args below meth c C H locs ls hP hS hl)
  · exact va_getN C.1 C.2.1 C.2.2.2.2.2.1 hin C.2.2.2.2.1 C.2.2.2.2.2.2.2.1 hP k0 (kk_ws_get hs) hc j hj (va_Nw.use (kk_isN_on rfl) (C.2.2.2.2.2.2.2.2.1 _ h)) (fun _ h9 => by rw [hTC] at h9; exact h9) hv hd (k p e s m args below meth c C H locs ls hP hS hl)
theorem kk_geti {idx ci j : Nat} {ty : FieldType} {fs : List kk_Fd} (hd : kk_d cc pc (.getfield idx) 3 b) (hf : kk_FL own idx ci j ty) {k0 : Nat} (hs : sh[k0]? = some (.inr (ci, fs))) (hj : fs[j]? = some none) (k : KK Z sh own cc nL ret R Qc b lv (.int (σ.1 k0 j) :: st) σ) : KK Z sh own cc nL ret R Qc pc lv (.ref (Z.2.1 k0) :: st) σ :=
  kk_getv hd hf k0 hs (by rw [kk_fvs_get, hj, Nat.zero_add]; rfl) k
theorem kk_getr {idx ci j r : Nat} {ty : FieldType} {fs : List kk_Fd} (hd : kk_d cc pc (.getfield idx) 3 b) (hf : kk_FL own idx ci j ty) {k0 : Nat} (hs : sh[k0]? = some (.inr (ci, fs))) (hj : fs[j]? = some (some r)) (k : KK Z sh own cc nL ret R Qc b lv (.ref (Z.2.1 r) :: st) σ) : KK Z sh own cc nL ret R Qc pc lv (.ref (Z.2.1 k0) :: st) σ :=
  kk_getv hd hf k0 hs (by rw [kk_fvs_get, hj]; rfl) k
theorem kk_putv {idx ci j : Nat} {ty : FieldType} {fs : List kk_Fd} {x : Int32} (hd : kk_d cc pc (.putfield idx) 3 b) (hf : kk_FL own idx ci j ty) (hfin : kk_FN ci j) (hn : narrow ty (.int x) = .int x) (hfit : fits ty (.int x) = true) {k0 : Nat} (hs : sh[k0]? = some (.inr (ci, fs))) (hj' : fs[j]? = some none) (k : KK Z sh own cc nL ret R Qc b lv (st) (kk_wr σ k0 j x)) : KK Z sh own cc nL ret R Qc pc lv (.int x :: .ref (Z.2.1 k0) :: st) σ := by
  obtain ⟨hd, rfl⟩ := hd
  intro p e s m args below meth c C H locs ls hP hS hl
  obtain ⟨C', T, N, ty0, hc, hj, hin, hty, hnm, hTC, hdsc, hlink⟩ := hf
  obtain ⟨C2, T2, N2, hc2, hfn⟩ := hfin
  obtain ⟨rfl, rfl, rfl⟩ : C' = C2 ∧ T = T2 ∧ N = N2 := by
    have h := hc.symm.trans hc2
    simp only [Option.some.injEq, Prod.mk.injEq] at h
    exact h
  have hlen : j < (kk_fvs Z.2.1 (σ.1 k0) 0 fs).length := by rw [kk_fvs_len]; exact (List.getElem?_eq_some_iff.mp hj').1
  rcases hlink with h | ⟨host, h⟩
  · exact va_put C.1 C.2.1 C.2.2.2.2.2.1 hin ty0 hty hnm C.2.2.2.2.1 C.2.2.2.2.2.2.2.1 hP (kk_D σ _ C.2.2.2.2.2.2.2.2.2) hS k0 (kk_ws_get hs) hc j hj (C.2.2.2.2.2.1 _ h) (fun _ h9 => by rw [hTC] at h9; exact h9) hfn hdsc hn hfit hlen hd (fun H locs hP _ hS => by rw [kk_ws_setO hs hj'] at hP; exact k p e s m args below meth c C H locs ls hP hS hl)
  · exact va_putN C.1 C.2.1 C.2.2.2.2.2.1 hin ty0 hty hnm C.2.2.2.2.1 C.2.2.2.2.2.2.2.1 hP (kk_D σ _ C.2.2.2.2.2.2.2.2.2) hS k0 (kk_ws_get hs) hc j hj (va_Nw.use (kk_isN_on rfl) (C.2.2.2.2.2.2.2.2.1 _ h)) (fun _ h9 => by rw [hTC] at h9; exact h9) hfn hdsc hn hfit hlen hd (fun H locs hP _ hS => by rw [kk_ws_setO hs hj'] at hP; exact k p e s m args below meth c C H locs ls hP hS hl)
theorem kk_puti {idx ci j : Nat} {fs : List kk_Fd} {x : Int32} (hd : kk_d cc pc (.putfield idx) 3 b) (hf : kk_FL own idx ci j .int) (hfin : kk_FN ci j) {k0 : Nat} (hs : sh[k0]? = some (.inr (ci, fs))) (hj' : fs[j]? = some none) (k : KK Z sh own cc nL ret R Qc b lv (st) (kk_wr σ k0 j x)) : KK Z sh own cc nL ret R Qc pc lv (.int x :: .ref (Z.2.1 k0) :: st) σ :=
  kk_putv hd hf hfin rfl rfl hs hj' k
theorem kk_putz {idx ci j : Nat} {fs : List kk_Fd} {x : Int32} (hd : kk_d cc pc (.putfield idx) 3 b) (hf : kk_FL own idx ci j .boolean) (hfin : kk_FN ci j) (hx : x = 0 ∨ x = 1) {k0 : Nat} (hs : sh[k0]? = some (.inr (ci, fs))) (hj' : fs[j]? = some none) (k : KK Z sh own cc nL ret R Qc b lv (st) (kk_wr σ k0 j x)) : KK Z sh own cc nL ret R Qc pc lv (.int x :: .ref (Z.2.1 k0) :: st) σ :=
  kk_putv hd hf hfin (by rcases hx with rfl | rfl <;> rfl) (by rcases hx with rfl | rfl <;> rfl) hs hj' k
theorem kk_iald {i : Int32} {k0 n : Nat} (hd : kk_d cc pc .iaload 1 b) (hs : sh[k0]? = some (.inl (false, n))) (hin : vp_in i n) (k : KK Z sh own cc nL ret R Qc b lv (.int (kk_rd σ k0 i) :: st) σ) : KK Z sh own cc nL ret R Qc pc lv (.int i :: .ref (Z.2.1 k0) :: st) σ := by
  obtain ⟨hd, rfl⟩ := hd
  intro p e s m args below meth c C H locs ls hP hS hl
  exact va_iald C.1 C.2.1 C.2.2.2.2.2.2.2.1 hP k0 0 (kk_ws_get hs) rfl hin hd (k p e s m args below meth c C H locs ls hP hS hl)
theorem kk_iast {i x : Int32} {k0 n : Nat} (hd : kk_d cc pc .iastore 1 b) (hs : sh[k0]? = some (.inl (false, n))) (hin : vp_in i n) (k : KK Z sh own cc nL ret R Qc b lv (st) (kk_wr σ k0 i.toNatClampNeg x)) : KK Z sh own cc nL ret R Qc pc lv (.int x :: .int i :: .ref (Z.2.1 k0) :: st) σ := by
  obtain ⟨hd, rfl⟩ := hd
  intro p e s m args below meth c C H locs ls hP hS hl
  exact va_iast C.1 C.2.1 C.2.2.2.2.2.2.2.1 hP (kk_D σ _ C.2.2.2.2.2.2.2.2.2) hS k0 0 (kk_ws_get hs) rfl hin hd (fun H locs hP _ hS => by rw [kk_ws_setA hs] at hP; exact k p e s m args below meth c C H locs ls hP hS hl)
theorem kk_lald {i : Int32} {k0 n : Nat} (hd : kk_d cc pc .laload 1 b) (hs : sh[k0]? = some (.inl (true, n))) (hin : vp_in i n) (k : KK Z sh own cc nL ret R Qc b lv (.long (σ.2 i.toNatClampNeg) :: st) σ) : KK Z sh own cc nL ret R Qc pc lv (.int i :: .ref (Z.2.1 k0) :: st) σ := by
  obtain ⟨hd, rfl⟩ := hd
  intro p e s m args below meth c C H locs ls hP hS hl
  exact va_lald C.1 C.2.1 C.2.2.2.2.2.2.2.1 hP k0 1 (kk_ws_get hs) rfl hin hd (k p e s m args below meth c C H locs ls hP hS hl)
theorem kk_last {i : Int32} {x : Int64} {k0 n : Nat} (hd : kk_d cc pc .lastore 1 b) (hs : sh[k0]? = some (.inl (true, n))) (hu : ∀ t m, sh[t]? = some (.inl (true, m)) → t = k0) (hin : vp_in i n) (k : KK Z sh own cc nL ret R Qc b lv (st) (kk_wrL σ i.toNatClampNeg x)) : KK Z sh own cc nL ret R Qc pc lv (.long x :: .int i :: .ref (Z.2.1 k0) :: st) σ := by
  obtain ⟨hd, rfl⟩ := hd
  intro p e s m args below meth c C H locs ls hP hS hl
  exact va_last C.1 C.2.1 C.2.2.2.2.2.2.2.1 hP (kk_D σ _ C.2.2.2.2.2.2.2.2.2) hS k0 1 (kk_ws_get hs) rfl hin hd (fun H locs hP _ hS => by rw [kk_ws_setL hs hu] at hP; exact k p e s m args below meth c C H locs ls hP hS hl)
theorem kk_alen {k0 n : Nat} {v : Int32} (hd : kk_d cc pc .arraylength 1 b) (hs : sh[k0]? = some (.inl (false, n))) (hv : Int32.ofNat n = v) (k : KK Z sh own cc nL ret R Qc b lv (.int v :: st) σ) : KK Z sh own cc nL ret R Qc pc lv (.ref (Z.2.1 k0) :: st) σ := by
  obtain ⟨hd, rfl⟩ := hd
  intro p e s m args below meth c C H locs ls hP hS hl
  exact va_alen C.1 C.2.1 C.2.2.2.2.2.2.2.1 hP k0 0 (kk_ws_get hs) rfl hv hd (k p e s m args below meth c C H locs ls hP hS hl)
theorem kk_copy {idx : Nat} {k0 k1 n0 n1 : Nat} {n : Int32} (hd : kk_d cc pc (.invokestatic idx) 3 b) (hw1 : Cond.methodLink own idx arraycopyName ∈ kk_good) (hw2 : Cond.native arraycopyName ∈ kk_good) (hw3 : Cond.static arraycopyName ∈ kk_good) (hw4 : Cond.initialized "java/lang/System" ∈ kk_good) (hs0 : sh[k0]? = some (.inl (false, n0))) (hs1 : sh[k1]? = some (.inl (false, n1))) (h3 : ¬ n < 0) (h4 : n.toNatClampNeg ≤ n0) (h5 : n.toNatClampNeg ≤ n1) (hR : 1 ≤ R.frames ∧ (st.map fun v => v.category).sum + (nativeFrameWords "java/lang/System" "arraycopy" 5 + 11) ≤ R.locals) (k : KK Z sh own cc nL ret R Qc b lv (st) (kk_wrF σ k1 (va_cpy (σ.1 k0) (σ.1 k1) 0 0 n.toNatClampNeg))) : KK Z sh own cc nL ret R Qc pc lv (.int n :: .int 0 :: .ref (Z.2.1 k1) :: .int 0 :: .ref (Z.2.1 k0) :: st) σ := by
  obtain ⟨hd, rfl⟩ := hd
  intro p e s m args below meth c C H locs ls hP hS hl
  exact va_copyi C.1 C.2.1 (by rw [C.2.2.2.1]; exact hl.1.symm) C.2.2.2.2.1 (C.2.2.2.2.2.1 _ hw1) (C.2.2.2.2.2.1 _ hw2) (C.2.2.2.2.2.1 _ hw3) (C.2.2.2.2.2.1 _ hw4) C.2.2.2.2.2.2.2.1 hP (kk_D σ _ C.2.2.2.2.2.2.2.2.2) hS k0 k1 0 0 (kk_ws_get hs0) (kk_ws_get hs1) rfl rfl rfl (by decide) (by decide) h3 (by show 0 + _ ≤ _; omega) (by show 0 + _ ≤ _; omega) (fun _ _ => rfl) hR.1 hR.2 hd (fun H locs hP _ hS => by rw [kk_ws_setA hs1] at hP; exact k p e s m args below meth c C H locs ls hP hS hl)
theorem kk_iret {Q : Int32 → kk_St → Prop} {v : Int32} (hd : kk_d cc pc .ireturn 1 b) (h : Q v σ) : KK Z sh own cc nL (some .int) R (kk_Qi Z sh Q) pc lv [.int v] σ := by
  obtain ⟨hd, rfl⟩ := hd
  intro p e s m args below meth c C H locs ls hP hS hl
  exact W.iret (v := v) C.1 C.2.1 C.2.2.1 (fun t ht hW => ⟨⟨v, σ, rfl, h, by show kk_P Z sh σ t.heap; rw [ht]; exact hP⟩, hS.F ht⟩) hS.2.2 hd C.2.2.2.2.2.2.1
theorem kk_zret {Q : Int32 → kk_St → Prop} {v : Int32} (hd : kk_d cc pc .ireturn 1 b) (hv : v = 0 ∨ v = 1) (h : Q v σ) : KK Z sh own cc nL (some .boolean) R (kk_Qi Z sh Q) pc lv [.int v] σ := by
  obtain ⟨hd, rfl⟩ := hd
  intro p e s m args below meth c C H locs ls hP hS hl
  exact W.zret (v := v) C.1 C.2.1 C.2.2.1 (by rcases hv with rfl | rfl <;> rfl) (fun t ht hW => ⟨⟨v, σ, rfl, h, by show kk_P Z sh σ t.heap; rw [ht]; exact hP⟩, hS.F ht⟩) hS.2.2 hd C.2.2.2.2.2.2.1
theorem kk_lret {Q : Int64 → kk_St → Prop} {v : Int64} (hd : kk_d cc pc .lreturn 1 b) (h : Q v σ) : KK Z sh own cc nL (some .long) R (kk_Ql Z sh Q) pc lv [.long v] σ := by
  obtain ⟨hd, rfl⟩ := hd
  intro p e s m args below meth c C H locs ls hP hS hl
  exact W.lret (v := v) C.1 C.2.1 C.2.2.1 (fun t ht hW => ⟨⟨v, σ, rfl, h, by show kk_P Z sh σ t.heap; rw [ht]; exact hP⟩, hS.F ht⟩) hS.2.2 hd C.2.2.2.2.2.2.1
theorem kk_vret {Q : kk_St → Prop} (hd : kk_d cc pc .return_ 1 b) (h : Q σ) : KK Z sh own cc nL none R (kk_Qv Z sh Q) pc lv [] σ := by
  obtain ⟨hd, rfl⟩ := hd
  intro p e s m args below meth c C H locs ls hP hS hl
  exact W.vret C.1 C.2.1 C.2.2.1 (fun t ht hW => ⟨⟨σ, rfl, h, by show kk_P Z sh σ t.heap; rw [ht]; exact hP⟩, hS.F ht⟩) hS.2.2 hd C.2.2.2.2.2.2.1
theorem kk_met {y : MethodName} {av : List Value} (hy : plainName y.cls = true) (hown : y.cls = own) (hlen : (lg_sl av).length ≤ nL) (hlv : lv_args 0 av = lv) (k : KK Z sh own cc nL ret R Qc 0 lv [] σ) : kk_M Z sh y cc nL ret R av σ Qc := by
  intro sz
  refine Met.ofW (cc := cc) (maxL := nL) (ret := ret) hy rfl ?_
  intro p e s m args below meth c s₁ B hml hv
  obtain ⟨rfl, hsz, hP, hK⟩ := hv
  subst hsz
  have hts := atoms_spec (ws := .code y cc nL ret :: kk_good) B.pre
  have hown' : s.vm.findClass own = some m.cls := by rw [← hown]; exact findClass_of_methodNamed B.named
  have hl := lv_entry av (n := nL) hlen
  rw [lg_entry_eq]
  generalize (lg_sl av ++ List.replicate (nL - (lg_sl av).length) Slot.unset).toArray = ls at hl ⊢
  rw [hlv] at hl
  exact k p e s m _ below meth c ⟨B.exec, B.bytes, B.returns, hml, hown', fun w hw => hts w (List.mem_cons_of_mem _ hw), B.notSynchronized, hK⟩ s.heap [] ls hP va_S.rf hl
def kk_ML (own : String) (idx : Nat) (y : MethodName) (cc : ByteArray) (nL : Nat) (ret : Option FieldType) (n : Nat) (stat : Bool) : Prop :=
  Cond.code y cc nL ret ∈ kk_good ∧ Cond.initialized y.cls ∈ kk_good ∧ (y.cls ≠ "java/lang/invoke/MethodHandle" ∧ y.cls ≠ "java/lang/invoke/VarHandle" ∧ (parseMethodDescriptor y.desc).map (fun d => d.parameters.length) = some n) ∧ (match stat with
    | true => Cond.static y ∈ kk_good
    | false => Cond.instanceMethod y ∈ kk_good ∧ Cond.selects y.cls y y ∈ kk_good) ∧ (Cond.methodLink own idx y ∈ kk_good ∨ ∃ host, Cond.methodLinkNest own idx y host ∈ kk_nest)
def kk_fit (nL : Nat) (R' R : Room) : Prop := R'.cells = 0 ∧ R'.slots = 0 ∧ R'.frames + 1 ≤ R.frames ∧ 8 + (nL + 11) + R'.locals ≤ R.locals
def kk_rcv (sh : List kk_Sh) (k : Nat) (y : MethodName) : Prop := ∃ (ci : Nat) (fs : List kk_Fd) (T : u_T) (N : Nat), sh[k]? = some (.inr (ci, fs)) ∧ vwCl[ci]? = some (y.cls, T, N)
theorem kk_goodW {w : Cond} (h : w ∈ kk_good) : (w.onTables && w.keeps) = true ∨ ∃ ty, w = .arrayClass ty := good_of_word (List.mem_filter.mp h).2
theorem kk_goodIn {w : Cond} (h : w ∈ kk_good) : GoodIn kk_good (w :: kk_good) := fun v hv => by
  rcases List.mem_cons.mp hv with rfl | hv
  · exact ⟨h, kk_goodW h⟩
  · exact ⟨hv, kk_goodW hv⟩
theorem kk_K.warm {s U : State} (h : kk_K Z sh s) (hW : s.WarmedH U.vm) : kk_K Z sh U := ⟨va_K.moved hW.alike h.1, fun w hw => kk_isN_warm (List.mem_filter.mp hw).2 hW (h.2.1 w hw), h.2.2⟩
theorem kk_blind {av : List Value} {sz : Nat} : FrameBlind (va_Pc av (fun U => U.heap.size = sz ∧ kk_P Z sh σ U.heap ∧ kk_K Z sh U)) := by
  intro a U g mk q
  obtain ⟨q0, q1, qP, qK, qN, qI⟩ := q
  exact ⟨q0, q1, qP, va_K.moved (u := U) (U := U.calling g mk a) (Vm.Alike.refl U.vm) qK, fun w hw => va_Nw.same (u := U) (U := U.calling g mk a) (kk_isN_on (List.mem_filter.mp hw).2) rfl (qN w hw), qI⟩
theorem kk_A_mono {sz sz' : Nat} (h : sz ≤ sz') : ∀ q, kk_A Z sh sz' q → kk_A Z sh sz q := by
  intro q hq
  rcases hq with h1 | h1
  · exact Or.inl h1
  · exact Or.inr (Nat.le_trans h h1)
theorem kk_runV {p : Program} {e : Env} {s : State} {m : MethodId} {args : Array Value} {below : List Frame} {meth : Method} {c : Code} {H : Heap} {locs : List Loc} {ls : Array Slot}
    {y : MethodName} {cc' : ByteArray} {nL' : Nat} {ret' : Option FieldType} {R' : Room} {Qc' : kk_Qt} {idx n k0 : Nat} {As rest st0 : List Value}
    (hM : kk_M Z sh y cc' nL' ret' R' (.ref (Z.2.1 k0) :: As) σ Qc') (hml : kk_ML own idx y cc' nL' ret' n false) (hrc : kk_rcv sh k0 y) (hn : As.length = n) (hR : kk_fit nL' R' R) (hcat : (rest.map fun v => v.category).sum ≤ 8) (hst : st0 = As.reverse ++ .ref (Z.2.1 k0) :: rest)
    (C : kk_C Z sh own cc nL ret p s m args meth c) (hP : kk_P Z sh σ H) (hl : lv_has ls nL lv) (hd : decode cc pc = .ok (.invokevirtual idx, 3)) :
    va_Run p Z.1 e R s m args below meth c H locs 0 0 0 0 (F0 m pc ls st0) rest (Qc' (kk_A Z sh H.size) (Value.ref (Z.2.1 k0) :: As).toArray) (kk_A Z sh H.size) := by
  obtain ⟨hx, hb, hr, hmx, hown, hts, hlocks, hK⟩ := C
  obtain ⟨hcode, hini, hdd, ⟨hinst, hsel⟩, hlink⟩ := hml
  obtain ⟨ci, fs, T, N, hs, hc⟩ := hrc
  obtain ⟨r1, r2, r3, r4⟩ := hR
  have hpre : PreV s H y.cls (Z.2.1 k0) (va_Pc (.ref (Z.2.1 k0) :: As) (fun U => U.heap.size = H.size ∧ kk_P Z sh σ U.heap ∧ kk_K Z sh U)) As :=
    ⟨kk_blind, va_recv hK.1 hP (ci := ci) (q0 := k0) hc (kk_ws_get hs), fun U hU hW => ⟨rfl, by rw [hU], by rw [hU]; exact hP, hK.warm hW⟩⟩
  rcases hlink with h | ⟨host, h⟩
  · exact va_runV ⟨hx, hb, hmx, hown, hts⟩ (hM H.size) ⟨callB_of n hts (kk_goodIn hcode) rfl r1 r2 (hts _ hini) (hts _ h) hdd ⟨r3, r4⟩, hts _ hinst, hts _ hsel⟩ hpre rfl hn hl.1 hst (lv_room hcat) hd ⟨Nat.zero_le _, Nat.zero_le _⟩
  · exact va_runVN ⟨hx, hb, hmx, hown, hts⟩ (hM H.size) ⟨va_cnB n hts (kk_goodIn hcode) rfl r1 r2 (hK.2.1 _ h) (hts _ hini) hdd ⟨r3, r4⟩, hts _ hinst, hts _ hsel⟩ hpre rfl hn hl.1 hst (lv_room hcat) hd ⟨Nat.zero_le _, Nat.zero_le _⟩
theorem kk_runS {p : Program} {e : Env} {s : State} {m : MethodId} {args : Array Value} {below : List Frame} {meth : Method} {c : Code} {H : Heap} {locs : List Loc} {ls : Array Slot}
    {y : MethodName} {cc' : ByteArray} {nL' : Nat} {ret' : Option FieldType} {R' : Room} {Qc' : kk_Qt} {idx n : Nat} {As rest st0 : List Value}
    (hM : kk_M Z sh y cc' nL' ret' R' As σ Qc') (hml : kk_ML own idx y cc' nL' ret' n true) (hn : As.length = n) (hR : kk_fit nL' R' R) (hcat : (rest.map fun v => v.category).sum ≤ 8) (hst : st0 = As.reverse ++ rest)
    (C : kk_C Z sh own cc nL ret p s m args meth c) (hP : kk_P Z sh σ H) (hl : lv_has ls nL lv) (hd : decode cc pc = .ok (.invokestatic idx, 3)) :
    va_Run p Z.1 e R s m args below meth c H locs 0 0 0 0 (F0 m pc ls st0) rest (Qc' (kk_A Z sh H.size) As.toArray) (kk_A Z sh H.size) := by
  obtain ⟨hx, hb, hr, hmx, hown, hts, hlocks, hK⟩ := C
  obtain ⟨hcode, hini, hdd, hstat, hlink⟩ := hml
  obtain ⟨r1, r2, r3, r4⟩ := hR
  have hpre : PreS s H (va_Pc As (fun U => U.heap.size = H.size ∧ kk_P Z sh σ U.heap ∧ kk_K Z sh U)) As :=
    ⟨kk_blind, fun U hU hW => ⟨rfl, by rw [hU], by rw [hU]; exact hP, hK.warm hW⟩⟩
  rcases hlink with h | ⟨host, h⟩
  · exact va_runS ⟨hx, hb, hmx, hown, hts⟩ (hM H.size) ⟨callB_of n hts (kk_goodIn hcode) rfl r1 r2 (hts _ hini) (hts _ h) hdd ⟨r3, r4⟩, hts _ hstat⟩ hpre rfl hn hl.1 hst (lv_room hcat) hd ⟨Nat.zero_le _, Nat.zero_le _⟩
  · exact va_runSN ⟨hx, hb, hmx, hown, hts⟩ (hM H.size) ⟨va_cnB n hts (kk_goodIn hcode) rfl r1 r2 (hK.2.1 _ h) (hts _ hini) hdd ⟨r3, r4⟩, hts _ hstat, trivial⟩ hpre rfl hn hl.1 hst (lv_room hcat) hd ⟨Nat.zero_le _, Nat.zero_le _⟩
theorem kk_callVi {y : MethodName} {cc' : ByteArray} {nL' : Nat} {ret' : Option FieldType} {R' : Room} {idx n k0 : Nat} {As rest st0 : List Value} {Q : Int32 → kk_St → Prop} (hd : kk_d cc pc (.invokevirtual idx) 3 b) (hml : kk_ML own idx y cc' nL' ret' n false) (hrc : kk_rcv sh k0 y) (hn : As.length = n) (hR : kk_fit nL' R' R) (hcat : (rest.map fun v => v.category).sum ≤ 8) (hst : st0 = As.reverse ++ .ref (Z.2.1 k0) :: rest) (hM : kk_M Z sh y cc' nL' ret' R' (.ref (Z.2.1 k0) :: As) σ (kk_Qi Z sh Q)) (k : ∀ (r : Int32) (σ' : kk_St), Q r σ' → KK Z sh own cc nL ret R Qc b lv (.int r :: rest) σ') : KK Z sh own cc nL ret R Qc pc lv (st0) σ := by
  obtain ⟨hd, rfl⟩ := hd
  intro p e s m args below meth c C H locs ls hP hS hl
  exact va_calli (kk_runV hM hml hrc hn hR hcat hst C hP hl hd) hS (fun q _ h => kk_A_mono hS.1 q h) (kk_A_mono hS.1) (fun r u t H1 locs1 ht hvm hw hB hz1 hk1 hS => k r u hw p e s m args below meth c C H1 locs1 ls (by rw [← ht]; exact hB) hS hl)
theorem kk_callVip {y : MethodName} {cc' : ByteArray} {nL' : Nat} {ret' : Option FieldType} {R' : Room} {idx n k0 : Nat} {As rest st0 : List Value} {Q : Int32 → Prop} (hd : kk_d cc pc (.invokevirtual idx) 3 b) (hml : kk_ML own idx y cc' nL' ret' n false) (hrc : kk_rcv sh k0 y) (hn : As.length = n) (hR : kk_fit nL' R' R) (hcat : (rest.map fun v => v.category).sum ≤ 8) (hst : st0 = As.reverse ++ .ref (Z.2.1 k0) :: rest) (hM : kk_M Z sh y cc' nL' ret' R' (.ref (Z.2.1 k0) :: As) σ (kk_Qi Z sh (fun r σ' => σ' = σ ∧ Q r))) (k : ∀ (r : Int32), Q r → KK Z sh own cc nL ret R Qc b lv (.int r :: rest) σ) : KK Z sh own cc nL ret R Qc pc lv (st0) σ := kk_callVi hd hml hrc hn hR hcat hst hM (fun r σ' h => by obtain ⟨rfl, h⟩ := h; exact k r h)
theorem kk_callVl {y : MethodName} {cc' : ByteArray} {nL' : Nat} {ret' : Option FieldType} {R' : Room} {idx n k0 : Nat} {As rest st0 : List Value} {Q : Int64 → kk_St → Prop} (hd : kk_d cc pc (.invokevirtual idx) 3 b) (hml : kk_ML own idx y cc' nL' ret' n false) (hrc : kk_rcv sh k0 y) (hn : As.length = n) (hR : kk_fit nL' R' R) (hcat : (rest.map fun v => v.category).sum ≤ 8) (hst : st0 = As.reverse ++ .ref (Z.2.1 k0) :: rest) (hM : kk_M Z sh y cc' nL' ret' R' (.ref (Z.2.1 k0) :: As) σ (kk_Ql Z sh Q)) (k : ∀ (r : Int64) (σ' : kk_St), Q r σ' → KK Z sh own cc nL ret R Qc b lv (.long r :: rest) σ') : KK Z sh own cc nL ret R Qc pc lv (st0) σ := by
  obtain ⟨hd, rfl⟩ := hd
  intro p e s m args below meth c C H locs ls hP hS hl
  exact va_calll (kk_runV hM hml hrc hn hR hcat hst C hP hl hd) hS (fun q _ h => kk_A_mono hS.1 q h) (kk_A_mono hS.1) (fun r u t H1 locs1 ht hvm hw hB hz1 hk1 hS => k r u hw p e s m args below meth c C H1 locs1 ls (by rw [← ht]; exact hB) hS hl)
theorem kk_callVlp {y : MethodName} {cc' : ByteArray} {nL' : Nat} {ret' : Option FieldType} {R' : Room} {idx n k0 : Nat} {As rest st0 : List Value} {Q : Int64 → Prop} (hd : kk_d cc pc (.invokevirtual idx) 3 b) (hml : kk_ML own idx y cc' nL' ret' n false) (hrc : kk_rcv sh k0 y) (hn : As.length = n) (hR : kk_fit nL' R' R) (hcat : (rest.map fun v => v.category).sum ≤ 8) (hst : st0 = As.reverse ++ .ref (Z.2.1 k0) :: rest) (hM : kk_M Z sh y cc' nL' ret' R' (.ref (Z.2.1 k0) :: As) σ (kk_Ql Z sh (fun r σ' => σ' = σ ∧ Q r))) (k : ∀ (r : Int64), Q r → KK Z sh own cc nL ret R Qc b lv (.long r :: rest) σ) : KK Z sh own cc nL ret R Qc pc lv (st0) σ := kk_callVl hd hml hrc hn hR hcat hst hM (fun r σ' h => by obtain ⟨rfl, h⟩ := h; exact k r h)
theorem kk_callVv {y : MethodName} {cc' : ByteArray} {nL' : Nat} {ret' : Option FieldType} {R' : Room} {idx n k0 : Nat} {As rest st0 : List Value} {Q : kk_St → Prop} (hd : kk_d cc pc (.invokevirtual idx) 3 b) (hml : kk_ML own idx y cc' nL' ret' n false) (hrc : kk_rcv sh k0 y) (hn : As.length = n) (hR : kk_fit nL' R' R) (hcat : (rest.map fun v => v.category).sum ≤ 8) (hst : st0 = As.reverse ++ .ref (Z.2.1 k0) :: rest) (hM : kk_M Z sh y cc' nL' ret' R' (.ref (Z.2.1 k0) :: As) σ (kk_Qv Z sh Q)) (k : ∀ (σ' : kk_St), Q σ' → KK Z sh own cc nL ret R Qc b lv (rest) σ') : KK Z sh own cc nL ret R Qc pc lv (st0) σ := by
  obtain ⟨hd, rfl⟩ := hd
  intro p e s m args below meth c C H locs ls hP hS hl
  exact va_callv (kk_runV hM hml hrc hn hR hcat hst C hP hl hd) hS (fun q _ h => kk_A_mono hS.1 q h) (kk_A_mono hS.1) (fun u t H1 locs1 ht hvm hw hB hz1 hk1 hS => k u hw p e s m args below meth c C H1 locs1 ls (by rw [← ht]; exact hB) hS hl)
theorem kk_callVvp {y : MethodName} {cc' : ByteArray} {nL' : Nat} {ret' : Option FieldType} {R' : Room} {idx n k0 : Nat} {As rest st0 : List Value} {Q : Prop} (hd : kk_d cc pc (.invokevirtual idx) 3 b) (hml : kk_ML own idx y cc' nL' ret' n false) (hrc : kk_rcv sh k0 y) (hn : As.length = n) (hR : kk_fit nL' R' R) (hcat : (rest.map fun v => v.category).sum ≤ 8) (hst : st0 = As.reverse ++ .ref (Z.2.1 k0) :: rest) (hM : kk_M Z sh y cc' nL' ret' R' (.ref (Z.2.1 k0) :: As) σ (kk_Qv Z sh (fun σ' => σ' = σ ∧ Q))) (k : Q → KK Z sh own cc nL ret R Qc b lv (rest) σ) : KK Z sh own cc nL ret R Qc pc lv (st0) σ := kk_callVv hd hml hrc hn hR hcat hst hM (fun σ' h => by obtain ⟨rfl, h⟩ := h; exact k h)
theorem kk_callSi {y : MethodName} {cc' : ByteArray} {nL' : Nat} {ret' : Option FieldType} {R' : Room} {idx n : Nat} {As rest st0 : List Value} {Q : Int32 → kk_St → Prop} (hd : kk_d cc pc (.invokestatic idx) 3 b) (hml : kk_ML own idx y cc' nL' ret' n true) (hn : As.length = n) (hR : kk_fit nL' R' R) (hcat : (rest.map fun v => v.category).sum ≤ 8) (hst : st0 = As.reverse ++ rest) (hM : kk_M Z sh y cc' nL' ret' R' As σ (kk_Qi Z sh Q)) (k : ∀ (r : Int32) (σ' : kk_St), Q r σ' → KK Z sh own cc nL ret R Qc b lv (.int r :: rest) σ') : KK Z sh own cc nL ret R Qc pc lv (st0) σ := by
  obtain ⟨hd, rfl⟩ := hd
  intro p e s m args below meth c C H locs ls hP hS hl
  exact va_calli (kk_runS hM hml hn hR hcat hst C hP hl hd) hS (fun q _ h => kk_A_mono hS.1 q h) (kk_A_mono hS.1) (fun r u t H1 locs1 ht hvm hw hB hz1 hk1 hS => k r u hw p e s m args below meth c C H1 locs1 ls (by rw [← ht]; exact hB) hS hl)
theorem kk_callSip {y : MethodName} {cc' : ByteArray} {nL' : Nat} {ret' : Option FieldType} {R' : Room} {idx n : Nat} {As rest st0 : List Value} {Q : Int32 → Prop} (hd : kk_d cc pc (.invokestatic idx) 3 b) (hml : kk_ML own idx y cc' nL' ret' n true) (hn : As.length = n) (hR : kk_fit nL' R' R) (hcat : (rest.map fun v => v.category).sum ≤ 8) (hst : st0 = As.reverse ++ rest) (hM : kk_M Z sh y cc' nL' ret' R' As σ (kk_Qi Z sh (fun r σ' => σ' = σ ∧ Q r))) (k : ∀ (r : Int32), Q r → KK Z sh own cc nL ret R Qc b lv (.int r :: rest) σ) : KK Z sh own cc nL ret R Qc pc lv (st0) σ := kk_callSi hd hml hn hR hcat hst hM (fun r σ' h => by obtain ⟨rfl, h⟩ := h; exact k r h)
theorem kk_callSl {y : MethodName} {cc' : ByteArray} {nL' : Nat} {ret' : Option FieldType} {R' : Room} {idx n : Nat} {As rest st0 : List Value} {Q : Int64 → kk_St → Prop} (hd : kk_d cc pc (.invokestatic idx) 3 b) (hml : kk_ML own idx y cc' nL' ret' n true) (hn : As.length = n) (hR : kk_fit nL' R' R) (hcat : (rest.map fun v => v.category).sum ≤ 8) (hst : st0 = As.reverse ++ rest) (hM : kk_M Z sh y cc' nL' ret' R' As σ (kk_Ql Z sh Q)) (k : ∀ (r : Int64) (σ' : kk_St), Q r σ' → KK Z sh own cc nL ret R Qc b lv (.long r :: rest) σ') : KK Z sh own cc nL ret R Qc pc lv (st0) σ := by
  obtain ⟨hd, rfl⟩ := hd
  intro p e s m args below meth c C H locs ls hP hS hl
  exact va_calll (kk_runS hM hml hn hR hcat hst C hP hl hd) hS (fun q _ h => kk_A_mono hS.1 q h) (kk_A_mono hS.1) (fun r u t H1 locs1 ht hvm hw hB hz1 hk1 hS => k r u hw p e s m args below meth c C H1 locs1 ls (by rw [← ht]; exact hB) hS hl)
theorem kk_callSlp {y : MethodName} {cc' : ByteArray} {nL' : Nat} {ret' : Option FieldType} {R' : Room} {idx n : Nat} {As rest st0 : List Value} {Q : Int64 → Prop} (hd : kk_d cc pc (.invokestatic idx) 3 b) (hml : kk_ML own idx y cc' nL' ret' n true) (hn : As.length = n) (hR : kk_fit nL' R' R) (hcat : (rest.map fun v => v.category).sum ≤ 8) (hst : st0 = As.reverse ++ rest) (hM : kk_M Z sh y cc' nL' ret' R' As σ (kk_Ql Z sh (fun r σ' => σ' = σ ∧ Q r))) (k : ∀ (r : Int64), Q r → KK Z sh own cc nL ret R Qc b lv (.long r :: rest) σ) : KK Z sh own cc nL ret R Qc pc lv (st0) σ := kk_callSl hd hml hn hR hcat hst hM (fun r σ' h => by obtain ⟨rfl, h⟩ := h; exact k r h)
theorem kk_callSv {y : MethodName} {cc' : ByteArray} {nL' : Nat} {ret' : Option FieldType} {R' : Room} {idx n : Nat} {As rest st0 : List Value} {Q : kk_St → Prop} (hd : kk_d cc pc (.invokestatic idx) 3 b) (hml : kk_ML own idx y cc' nL' ret' n true) (hn : As.length = n) (hR : kk_fit nL' R' R) (hcat : (rest.map fun v => v.category).sum ≤ 8) (hst : st0 = As.reverse ++ rest) (hM : kk_M Z sh y cc' nL' ret' R' As σ (kk_Qv Z sh Q)) (k : ∀ (σ' : kk_St), Q σ' → KK Z sh own cc nL ret R Qc b lv (rest) σ') : KK Z sh own cc nL ret R Qc pc lv (st0) σ := by
  obtain ⟨hd, rfl⟩ := hd
  intro p e s m args below meth c C H locs ls hP hS hl
  exact va_callv (kk_runS hM hml hn hR hcat hst C hP hl hd) hS (fun q _ h => kk_A_mono hS.1 q h) (kk_A_mono hS.1) (fun u t H1 locs1 ht hvm hw hB hz1 hk1 hS => k u hw p e s m args below meth c C H1 locs1 ls (by rw [← ht]; exact hB) hS hl)
theorem kk_callSvp {y : MethodName} {cc' : ByteArray} {nL' : Nat} {ret' : Option FieldType} {R' : Room} {idx n : Nat} {As rest st0 : List Value} {Q : Prop} (hd : kk_d cc pc (.invokestatic idx) 3 b) (hml : kk_ML own idx y cc' nL' ret' n true) (hn : As.length = n) (hR : kk_fit nL' R' R) (hcat : (rest.map fun v => v.category).sum ≤ 8) (hst : st0 = As.reverse ++ rest) (hM : kk_M Z sh y cc' nL' ret' R' As σ (kk_Qv Z sh (fun σ' => σ' = σ ∧ Q))) (k : Q → KK Z sh own cc nL ret R Qc b lv (rest) σ) : KK Z sh own cc nL ret R Qc pc lv (st0) σ := kk_callSv hd hml hn hR hcat hst hM (fun σ' h => by obtain ⟨rfl, h⟩ := h; exact k h)
end
