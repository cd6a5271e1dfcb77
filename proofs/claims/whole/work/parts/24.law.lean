/-! THE CLAIM OUT OF ONE WALK OF THE LAW'S BODY. Your part is whole_start (and what it stands on); all else here is the same for every law, but numbers. -/
def R_law : String := "LineColoursLaw"
def lw_P (b : Addr) (xs : List Int32) (args : Array Value) (s : State) : Prop := args = #[.ref b] ∧ s.IntsAt b xs ∧ xs.length ≤ 2560 ∧ (Jvm.Cond.and given_1 narrow_1).before args s = true
def lw_Q (_ : Array Value) (s : State) (o : Outcome) (t : State) : Prop := o = .returned (some (.int 1)) ∧ Framed s o t [] 600000 7302250
def lw_Z (below : List Frame) (a : Array Value) (s : State) : State → Prop := fun t => ∃ o, t.status = .running ∧ Ended t below o ∧ lw_Q a s o t
/-- the law's own end, with 1 on the stack, nothing written that was there before, its room as the claim has it -/
theorem lw_ret {p : Program} {l : Launch} {e : Env} {s : State} {m : MethodId} {below : List Frame} {meth : Method} {c : Code} {b : Nat} (hx : p.tables.exec = Jvm.exec) (hb : c.code = code) (hr : meth.sig.returnType = ret) (hlocks : meth.locks = false) {pc : Nat} {H : Heap} {ls : Array Slot} (hdg : decode code pc = .ok (.ireturn, 1)) : W p l e room_1 s m #[Value.ref b] below meth c H [] 600000 7302250 (lw_Z below #[Value.ref b] s) (F0 m pc ls [.int 1]) := by
  intro T hT X
  obtain ⟨fs, hret, hrun, hended, hW, hframe⟩ := X.leave (v := some (.int 1)) (hlocks := hlocks) (fun h => by rw [hr] at h; cases h)
  have hmeth' : T.vm.method? m = some meth := X.method'
  refine ⟨T.setFrames fs, ?_, .returned (some (.int 1)), hrun, hended, rfl, ⟨_, rfl⟩, hW, hframe⟩
  jvm_step X.here [X.here.top, hx, hb, hdg, hmeth', hr, ret, narrow_b1]
  (try refine ⟨rfl, ?_⟩); (try refine ⟨rfl, ?_⟩)
  first | (intro acts; rw [hret _ acts rfl rfl rfl]) | rw [hret _ _ rfl rfl rfl]
  exact Steps.refl _
/-- what holds at the law's entry: the machine, the code, the tables' words (any of lw_tbl by 'hts w (by decide +kernel)'), the script of L ints xs at the cell b, what the Statement gives of the start (any of its parts by flat_of_before) -/
def lw_At (p : Program) (s : State) (m : MethodId) (meth : Method) (c : Code) (b L : Nat) (xs : Nat → Int32) : Prop :=
  p.tables.exec = Jvm.exec ∧ c.code = code ∧ meth.sig.returnType = ret ∧ c.maxLocals = 4 ∧ s.vm.findClass R_law = some m.cls ∧ (∀ w ∈ lw_tbl, w.before #[Value.ref b] s = true) ∧ va_X b L xs s s.heap ∧ b < s.heap.size ∧ meth.locks = false ∧ (Jvm.Cond.and given_1 narrow_1).before #[Value.ref b] s = true

/-! the law: two worlds side by side -/
theorem kk_fitL {nL d : Nat} (h : d ≤ 1000) (h2 : nL ≤ 45) : kk_fit nL (kk_R d) room_1 := ⟨rfl, rfl, by show d + 1 ≤ 2048; omega, by show 8 + (nL + 11) + 64 * d ≤ 84000; omega⟩
theorem lk_lcmp0 (x : Int64) : lg_cmp x x = 0 := by
  have h : ¬ x < x := fun h => absurd (Int64.lt_iff_toInt_lt.mp h) (by omega)
  simp [lg_cmp, h]
abbrev lk_A (s : State) : Nat → Prop := fun q => s.heap.size ≤ q
/-- what holds all through the law -/
def lk_C (Z1 Z2 : kk_Z) (p : Program) (s : State) (m : MethodId) (meth : Method) (c : Code) (b L : Nat) (xs : Nat → Int32) : Prop :=
  p.tables.exec = Jvm.exec ∧ c.code = code ∧ meth.sig.returnType = ret ∧ c.maxLocals = 4 ∧ s.vm.findClass RL = some m.cls ∧ (∀ w ∈ kk_good, w.before #[Value.ref b] s = true) ∧ meth.locks = false ∧ kk_K Z1 sh_C s ∧ kk_K Z2 sh_M s ∧ va_X b L xs s s.heap ∧ b < s.heap.size ∧
  (∀ i, i < sh_C.length → s.heap.size ≤ Z1.2.1 i) ∧ (∀ i, i < sh_M.length → s.heap.size ≤ Z2.2.1 i) ∧ (∀ i j, i < sh_C.length → j < sh_M.length → Z1.2.1 i ≠ Z2.2.1 j)
def LK (Z1 Z2 : kk_Z) (p : Program) (l : Launch) (e : Env) (s : State) (m : MethodId) (below : List Frame) (meth : Method) (c : Code) (b : Nat) (cells slots : Nat) (pc : Nat) (lv : List (Nat × Value)) (st : List Value) (σ1 σ2 : kk_St) : Prop :=
  ∀ (H : Heap) (locs : List Loc) (ls : Array Slot), kk_P Z1 sh_C σ1 H → kk_P Z2 sh_M σ2 H → va_S (lk_A s) s.heap H locs → lv_has ls 4 lv → W p l e room_1 s m #[Value.ref b] below meth c H locs cells slots (lw_Z below #[Value.ref b] s) (F0 m pc ls st)
section
variable {Z1 Z2 : kk_Z} {p : Program} {l : Launch} {e : Env} {s : State} {m : MethodId} {below : List Frame} {meth : Method} {c : Code} {bb L cells slots pc b tgt : Nat} {xs : Nat → Int32} {lv lv' : List (Nat × Value)} {st : List Value} {σ1 σ2 : kk_St} {off : Int}
theorem lkk_aload_n (C : lk_C Z1 Z2 p s m meth c bb L xs) {q : Fin 4} {x : Nat} (j : Nat) (hj : lv[j]? = some ((q : Nat), .ref x)) (hd : kk_d code pc (.aload_n q) 1 b) (k : LK Z1 Z2 p l e s m below meth c bb cells slots b lv (.ref x :: st) σ1 σ2) : LK Z1 Z2 p l e s m below meth c bb cells slots pc lv (st) σ1 σ2 := by
  obtain ⟨hd, rfl⟩ := hd
  intro H locs ls hP1 hP2 hS hl
  exact lv_aload_n C.1 C.2.1 hd rfl (lv_at hl j hj) (k H locs ls hP1 hP2 hS hl)
theorem lkk_iload_n (C : lk_C Z1 Z2 p s m meth c bb L xs) {q : Fin 4} {x : Int32} (j : Nat) (hj : lv[j]? = some ((q : Nat), .int x)) (hd : kk_d code pc (.iload_n q) 1 b) (k : LK Z1 Z2 p l e s m below meth c bb cells slots b lv (.int x :: st) σ1 σ2) : LK Z1 Z2 p l e s m below meth c bb cells slots pc lv (st) σ1 σ2 := by
  obtain ⟨hd, rfl⟩ := hd
  intro H locs ls hP1 hP2 hS hl
  exact lv_iload_n C.1 C.2.1 hd rfl (lv_at hl j hj) (k H locs ls hP1 hP2 hS hl)
theorem lkk_iconst (C : lk_C Z1 Z2 p s m meth c bb L xs) {n : Int} {v : Int32} (hv : Int32.ofInt n = v) (hd : kk_d code pc (.iconst n) 1 b) (k : LK Z1 Z2 p l e s m below meth c bb cells slots b lv (.int v :: st) σ1 σ2) : LK Z1 Z2 p l e s m below meth c bb cells slots pc lv (st) σ1 σ2 := by
  obtain ⟨hd, rfl⟩ := hd
  intro H locs ls hP1 hP2 hS hl
  exact lv_iconst C.1 C.2.1 hd hv (k H locs ls hP1 hP2 hS hl)
theorem lkk_bipush (C : lk_C Z1 Z2 p s m meth c bb L xs) {n : Int} {v : Int32} (hv : (Int8.ofInt n).toInt32 = v) (hd : kk_d code pc (.bipush n) 2 b) (k : LK Z1 Z2 p l e s m below meth c bb cells slots b lv (.int v :: st) σ1 σ2) : LK Z1 Z2 p l e s m below meth c bb cells slots pc lv (st) σ1 σ2 := by
  obtain ⟨hd, rfl⟩ := hd
  intro H locs ls hP1 hP2 hS hl
  exact lv_bipush C.1 C.2.1 hd hv (k H locs ls hP1 hP2 hS hl)
theorem lkk_iadd (C : lk_C Z1 Z2 p s m meth c bb L xs) {x y : Int32} (hd : kk_d code pc .iadd 1 b) (k : LK Z1 Z2 p l e s m below meth c bb cells slots b lv (.int (x + y) :: st) σ1 σ2) : LK Z1 Z2 p l e s m below meth c bb cells slots pc lv (.int y :: .int x :: st) σ1 σ2 := by
  obtain ⟨hd, rfl⟩ := hd
  intro H locs ls hP1 hP2 hS hl
  exact lv_iadd C.1 C.2.1 hd  (k H locs ls hP1 hP2 hS hl)
theorem lkk_isub (C : lk_C Z1 Z2 p s m meth c bb L xs) {x y : Int32} (hd : kk_d code pc .isub 1 b) (k : LK Z1 Z2 p l e s m below meth c bb cells slots b lv (.int (x - y) :: st) σ1 σ2) : LK Z1 Z2 p l e s m below meth c bb cells slots pc lv (.int y :: .int x :: st) σ1 σ2 := by
  obtain ⟨hd, rfl⟩ := hd
  intro H locs ls hP1 hP2 hS hl
  exact lv_isub C.1 C.2.1 hd  (k H locs ls hP1 hP2 hS hl)
theorem lkk_iand (C : lk_C Z1 Z2 p s m meth c bb L xs) {x y : Int32} (hd : kk_d code pc .iand 1 b) (k : LK Z1 Z2 p l e s m below meth c bb cells slots b lv (.int (x &&& y) :: st) σ1 σ2) : LK Z1 Z2 p l e s m below meth c bb cells slots pc lv (.int y :: .int x :: st) σ1 σ2 := by
  obtain ⟨hd, rfl⟩ := hd
  intro H locs ls hP1 hP2 hS hl
  exact lv_iand C.1 C.2.1 hd  (k H locs ls hP1 hP2 hS hl)
theorem lkk_lcmp (C : lk_C Z1 Z2 p s m meth c bb L xs) {x y : Int64} (hd : kk_d code pc .lcmp 1 b) (k : LK Z1 Z2 p l e s m below meth c bb cells slots b lv (.int (lg_cmp x y) :: st) σ1 σ2) : LK Z1 Z2 p l e s m below meth c bb cells slots pc lv (.long y :: .long x :: st) σ1 σ2 := by
  obtain ⟨hd, rfl⟩ := hd
  intro H locs ls hP1 hP2 hS hl
  exact W.lcmp C.1 C.2.1 hd  (k H locs ls hP1 hP2 hS hl)
theorem lkk_sld (C : lk_C Z1 Z2 p s m meth c bb L xs) {x : Int32} (hd : kk_d code pc .iaload 1 b) (hin : vp_in x L) (k : LK Z1 Z2 p l e s m below meth c bb cells slots b lv (.int (xs x.toNatClampNeg) :: st) σ1 σ2) : LK Z1 Z2 p l e s m below meth c bb cells slots pc lv (.int x :: .ref bb :: st) σ1 σ2 := by
  obtain ⟨hd, rfl⟩ := hd
  intro H locs ls hP1 hP2 hS hl
  exact va_sld C.1 C.2.1 C.2.2.2.2.2.2.2.2.2.1 C.2.2.2.2.2.2.2.2.2.2.1 (Nat.not_le.mpr C.2.2.2.2.2.2.2.2.2.2.1) hS hin hd (k H locs ls hP1 hP2 hS hl)
theorem lkk_slen (C : lk_C Z1 Z2 p s m meth c bb L xs) (hd : kk_d code pc .arraylength 1 b) (k : LK Z1 Z2 p l e s m below meth c bb cells slots b lv (.int (Int32.ofNat L) :: st) σ1 σ2) : LK Z1 Z2 p l e s m below meth c bb cells slots pc lv (.ref bb :: st) σ1 σ2 := by
  obtain ⟨hd, rfl⟩ := hd
  intro H locs ls hP1 hP2 hS hl
  exact va_slen C.1 C.2.1 C.2.2.2.2.2.2.2.2.2.1 C.2.2.2.2.2.2.2.2.2.2.1 (Nat.not_le.mpr C.2.2.2.2.2.2.2.2.2.2.1) hS hd (k H locs ls hP1 hP2 hS hl)
theorem lkk_sub (ks : List Nat) (h : lv_pick lv ks = lv') (k : LK Z1 Z2 p l e s m below meth c bb cells slots pc lv' (st) σ1 σ2) : LK Z1 Z2 p l e s m below meth c bb cells slots pc lv (st) σ1 σ2 := by
  intro H locs ls hP1 hP2 hS hl
  exact k H locs ls hP1 hP2 hS (lv_sub hl ks h)
theorem lkk_goto (C : lk_C Z1 Z2 p s m meth c bb L xs) (hd : kk_dj code pc (.goto off) 3 off b tgt) (k : LK Z1 Z2 p l e s m below meth c bb cells slots tgt lv (st) σ1 σ2) : LK Z1 Z2 p l e s m below meth c bb cells slots pc lv (st) σ1 σ2 := by
  obtain ⟨hd, rfl, ht⟩ := hd
  intro H locs ls hP1 hP2 hS hl
  exact lv_goto C.1 C.2.1 hd ht (k H locs ls hP1 hP2 hS hl)
theorem lkk_if_eq (C : lk_C Z1 Z2 p s m meth c bb L xs) {x : Int32} (hd : kk_dj code pc (.ifCond .eq off) 3 off b tgt) (kt : x = 0 → LK Z1 Z2 p l e s m below meth c bb cells slots tgt lv (st) σ1 σ2) (kf : ¬ x = 0 → LK Z1 Z2 p l e s m below meth c bb cells slots b lv (st) σ1 σ2) : LK Z1 Z2 p l e s m below meth c bb cells slots pc lv (.int x :: st) σ1 σ2 := by
  obtain ⟨hd, rfl, ht⟩ := hd
  intro H locs ls hP1 hP2 hS hl
  exact lv_if_eq C.1 C.2.1 hd ht (fun z => kt z H locs ls hP1 hP2 hS hl) (fun z => kf z H locs ls hP1 hP2 hS hl)
theorem lkk_icmp_eq (C : lk_C Z1 Z2 p s m meth c bb L xs) {x y : Int32} (hd : kk_dj code pc (.if_icmp .eq off) 3 off b tgt) (kt : x = y → LK Z1 Z2 p l e s m below meth c bb cells slots tgt lv (st) σ1 σ2) (kf : ¬ x = y → LK Z1 Z2 p l e s m below meth c bb cells slots b lv (st) σ1 σ2) : LK Z1 Z2 p l e s m below meth c bb cells slots pc lv (.int y :: .int x :: st) σ1 σ2 := by
  obtain ⟨hd, rfl, ht⟩ := hd
  intro H locs ls hP1 hP2 hS hl
  exact lv_icmp_eq C.1 C.2.1 hd ht (fun z => kt z H locs ls hP1 hP2 hS hl) (fun z => kf z H locs ls hP1 hP2 hS hl)
theorem lkk_icmp_gt (C : lk_C Z1 Z2 p s m meth c bb L xs) {x y : Int32} (hd : kk_dj code pc (.if_icmp .gt off) 3 off b tgt) (kt : y < x → LK Z1 Z2 p l e s m below meth c bb cells slots tgt lv (st) σ1 σ2) (kf : ¬ y < x → LK Z1 Z2 p l e s m below meth c bb cells slots b lv (st) σ1 σ2) : LK Z1 Z2 p l e s m below meth c bb cells slots pc lv (.int y :: .int x :: st) σ1 σ2 := by
  obtain ⟨hd, rfl, ht⟩ := hd
  intro H locs ls hP1 hP2 hS hl
  exact lv_icmp_gt C.1 C.2.1 hd ht (fun z => kt z H locs ls hP1 hP2 hS hl) (fun z => kf z H locs ls hP1 hP2 hS hl)
theorem lkk_iinc (C : lk_C Z1 Z2 p s m meth c bb L xs) {i j : Nat} {n : Int} {x v : Int32} (hd : kk_d code pc (.iinc i n) 3 b) (hj : lv[j]? = some (i, .int x)) (hv : x + Int32.ofInt n = v) (hn : i < 4) (hl' : (i, Value.int v) :: lv.filter (fun q => !(q.1 == i) && !(q.1 + 1 == i && q.2.category == 2)) = lv') (k : LK Z1 Z2 p l e s m below meth c bb cells slots b lv' (st) σ1 σ2) : LK Z1 Z2 p l e s m below meth c bb cells slots pc lv (st) σ1 σ2 := by
  obtain ⟨hd, rfl⟩ := hd
  intro H locs ls hP1 hP2 hS hl
  exact lv_iinc C.1 C.2.1 hd hl hj hv hn hl' (fun ls hl => k H locs ls hP1 hP2 hS hl)
theorem lkk_swIn (C : lk_C Z1 Z2 p s m meth c bb L xs) {dflt hi : Int} {offs : Array Int} {len : Nat} {x : Int32} (hd : decode code pc = .ok (.tableswitch dflt 0 hi offs, len)) (i : Nat) (hx : x = nI i) (hi' : (i : Int) ≤ hi) (hs : i < 1000) (ho : offs[i]? = some off) (ht : (pc : Int) + off = (tgt : Int)) (k : LK Z1 Z2 p l e s m below meth c bb cells slots tgt lv (st) σ1 σ2) : LK Z1 Z2 p l e s m below meth c bb cells slots pc lv (.int x :: st) σ1 σ2 := by
  intro H locs ls hP1 hP2 hS hl
  have hxi : x.toInt = (i : Int) := by rw [hx, nI_toInt (by omega)]
  exact lv_tableIn C.1 C.2.1 hd (by rw [hxi]; omega) (by rw [hxi]; omega) (by rw [hxi]; simpa using ho) ht (k H locs ls hP1 hP2 hS hl)
theorem lkk_swOut (C : lk_C Z1 Z2 p s m meth c bb L xs) {dflt hi : Int} {offs : Array Int} {len : Nat} {x : Int32} (hd : decode code pc = .ok (.tableswitch dflt 0 hi offs, len)) (hx : x.toInt < 0 ∨ hi < x.toInt) (ht : (pc : Int) + dflt = (tgt : Int)) (k : LK Z1 Z2 p l e s m below meth c bb cells slots tgt lv (st) σ1 σ2) : LK Z1 Z2 p l e s m below meth c bb cells slots pc lv (.int x :: st) σ1 σ2 := by
  intro H locs ls hP1 hP2 hS hl
  exact lv_tableOut C.1 C.2.1 hd hx ht (k H locs ls hP1 hP2 hS hl)
theorem lk_keepM (C : lk_C Z1 Z2 p s m meth c bb L xs) {σ2 : kk_St} {H H1 : Heap} (hP2 : kk_P Z2 sh_M σ2 H) (hk : ∀ q : Nat, q < H.size → ¬ kk_A Z1 sh_C H.size q → H1[q]? = H[q]?) : kk_P Z2 sh_M σ2 H1 := by
  refine va_P.kept hP2 (fun k q hq => ?_)
  obtain ⟨l1, a1⟩ := kk_ws_some hq
  have hlt := (hP2 k q hq).lt
  refine hk q.1 hlt ?_
  rintro (⟨i, h1, h2⟩ | h)
  · exact C.2.2.2.2.2.2.2.2.2.2.2.2.2 i k h1 l1 (by rw [← h2, a1])
  · omega
theorem lk_keepC (C : lk_C Z1 Z2 p s m meth c bb L xs) {σ1 : kk_St} {H H1 : Heap} (hP1 : kk_P Z1 sh_C σ1 H) (hk : ∀ q : Nat, q < H.size → ¬ kk_A Z2 sh_M H.size q → H1[q]? = H[q]?) : kk_P Z1 sh_C σ1 H1 := by
  refine va_P.kept hP1 (fun k q hq => ?_)
  obtain ⟨l1, a1⟩ := kk_ws_some hq
  have hlt := (hP1 k q hq).lt
  refine hk q.1 hlt ?_
  rintro (⟨i, h1, h2⟩ | h)
  · exact C.2.2.2.2.2.2.2.2.2.2.2.2.2 k i l1 h1 (by rw [← h2, a1])
  · omega
theorem lk_AC (C : lk_C Z1 Z2 p s m meth c bb L xs) {H : Heap} (h : s.heap.size ≤ H.size) : ∀ q, kk_A Z1 sh_C H.size q → lk_A s q := by
  rintro q (⟨i, h1, h2⟩ | h3)
  · rw [h2]; exact C.2.2.2.2.2.2.2.2.2.2.2.1 i h1
  · exact Nat.le_trans h h3
theorem lk_AM (C : lk_C Z1 Z2 p s m meth c bb L xs) {H : Heap} (h : s.heap.size ≤ H.size) : ∀ q, kk_A Z2 sh_M H.size q → lk_A s q := by
  rintro q (⟨i, h1, h2⟩ | h3)
  · rw [h2]; exact C.2.2.2.2.2.2.2.2.2.2.2.2.1 i h1
  · exact Nat.le_trans h h3
theorem lk_run {Z : kk_Z} {sh : List kk_Sh} {σ : kk_St} {H : Heap} {locs : List Loc} {ls : Array Slot} {y : MethodName} {cc' : ByteArray} {nL' : Nat} {ret' : Option FieldType} {R' : Room} {Qc' : kk_Qt} {idx n : Nat} {As rest st0 : List Value} (C : lk_C Z1 Z2 p s m meth c bb L xs) (hK : kk_K Z sh s) (hZ : Z.1 = l) (hcl : cells ≤ 600000 ∧ slots ≤ 7302250)
    (hM : kk_M Z sh y cc' nL' ret' R' (.ref (Z.2.1 0) :: As) σ Qc') (hml : kk_ML RL idx y cc' nL' ret' n false) (hrc : kk_rcv sh 0 y) (hn : As.length = n) (hR : kk_fit nL' R' room_1) (hcat : (rest.map fun v => v.category).sum ≤ 8) (hst : st0 = As.reverse ++ .ref (Z.2.1 0) :: rest) (hP : kk_P Z sh σ H) (hl : lv_has ls 4 lv) (hd : decode code pc = .ok (.invokevirtual idx, 3)) :
    va_Run p l e room_1 s m #[Value.ref bb] below meth c H locs cells slots 0 0 (F0 m pc ls st0) rest (Qc' (kk_A Z sh H.size) (Value.ref (Z.2.1 0) :: As).toArray) (kk_A Z sh H.size) := by
  subst hZ
  obtain ⟨hx, hb, hr, hmx, hown, hts, hlocks, -⟩ := C
  obtain ⟨hcode, hini, hdd, ⟨hinst, hsel⟩, hlink⟩ := hml
  obtain ⟨ci, fs, T, N, hs, hc⟩ := hrc
  obtain ⟨r1, r2, r3, r4⟩ := hR
  have hpre : PreV s H y.cls (Z.2.1 0) (va_Pc (.ref (Z.2.1 0) :: As) (fun U => U.heap.size = H.size ∧ kk_P Z sh σ U.heap ∧ kk_K Z sh U)) As :=
    ⟨kk_blind, va_recv hK.1 hP (ci := ci) (q0 := 0) hc (kk_ws_get hs), fun U hU hW => ⟨rfl, by rw [hU], by rw [hU]; exact hP, hK.warm hW⟩⟩
  rcases hlink with h | ⟨host, h⟩
  · exact va_runV ⟨hx, hb, hmx, hown, hts⟩ (hM H.size) ⟨callB_of n hts (kk_goodIn hcode) rfl r1 r2 (hts _ hini) (hts _ h) hdd ⟨r3, r4⟩, hts _ hinst, hts _ hsel⟩ hpre rfl hn hl.1 hst (lv_room hcat) hd hcl
  · exact va_runVN ⟨hx, hb, hmx, hown, hts⟩ (hM H.size) ⟨va_cnB n hts (kk_goodIn hcode) rfl r1 r2 (hK.2.1 _ h) (hts _ hini) hdd ⟨r3, r4⟩, hts _ hinst, hts _ hsel⟩ hpre rfl hn hl.1 hst (lv_room hcat) hd hcl
theorem lkk_callCi (C : lk_C Z1 Z2 p s m meth c bb L xs) (hZ : Z1.1 = l) (hcl : cells ≤ 600000 ∧ slots ≤ 7302250) {y : MethodName} {cc' : ByteArray} {nL' : Nat} {ret' : Option FieldType} {R' : Room} {idx n : Nat} {As rest st0 : List Value} {Q : Int32 → kk_St → Prop} (hd : kk_d code pc (.invokevirtual idx) 3 b) (hml : kk_ML RL idx y cc' nL' ret' n false) (hrc : kk_rcv sh_C 0 y) (hn : As.length = n) (hR : kk_fit nL' R' room_1) (hcat : (rest.map fun v => v.category).sum ≤ 8) (hst : st0 = As.reverse ++ .ref (Z1.2.1 0) :: rest) (hM : kk_M Z1 sh_C y cc' nL' ret' R' (.ref (Z1.2.1 0) :: As) σ1 (kk_Qi Z1 sh_C Q)) (k : ∀ (r : Int32) (σ' : kk_St), Q r σ' → LK Z1 Z2 p l e s m below meth c bb cells slots b lv (.int r :: rest) σ' σ2) : LK Z1 Z2 p l e s m below meth c bb cells slots pc lv (st0) σ1 σ2 := by
  obtain ⟨hd, rfl⟩ := hd
  intro H locs ls hP1 hP2 hS hl
  exact va_calli (lk_run C C.2.2.2.2.2.2.2.1 hZ hcl hM hml hrc hn hR hcat hst hP1 hl hd) hS (fun q _ h => lk_AC C hS.1 q h) (lk_AC C hS.1) (fun r u t H1 locs1 ht hvm hw hB hz1 hk1 hS => k r u hw H1 locs1 ls (by rw [← ht]; exact hB) (lk_keepM C hP2 hk1) hS hl)
theorem lkk_callCip (C : lk_C Z1 Z2 p s m meth c bb L xs) (hZ : Z1.1 = l) (hcl : cells ≤ 600000 ∧ slots ≤ 7302250) {y : MethodName} {cc' : ByteArray} {nL' : Nat} {ret' : Option FieldType} {R' : Room} {idx n : Nat} {As rest st0 : List Value} {Q : Int32 → Prop} (hd : kk_d code pc (.invokevirtual idx) 3 b) (hml : kk_ML RL idx y cc' nL' ret' n false) (hrc : kk_rcv sh_C 0 y) (hn : As.length = n) (hR : kk_fit nL' R' room_1) (hcat : (rest.map fun v => v.category).sum ≤ 8) (hst : st0 = As.reverse ++ .ref (Z1.2.1 0) :: rest) (hM : kk_M Z1 sh_C y cc' nL' ret' R' (.ref (Z1.2.1 0) :: As) σ1 (kk_Qi Z1 sh_C (fun r σ' => σ' = σ1 ∧ Q r))) (k : ∀ (r : Int32), Q r → LK Z1 Z2 p l e s m below meth c bb cells slots b lv (.int r :: rest) σ1 σ2) : LK Z1 Z2 p l e s m below meth c bb cells slots pc lv (st0) σ1 σ2 := lkk_callCi C hZ hcl hd hml hrc hn hR hcat hst hM (fun r σ' h => by obtain ⟨rfl, h⟩ := h; exact k r h)
theorem lkk_callCl (C : lk_C Z1 Z2 p s m meth c bb L xs) (hZ : Z1.1 = l) (hcl : cells ≤ 600000 ∧ slots ≤ 7302250) {y : MethodName} {cc' : ByteArray} {nL' : Nat} {ret' : Option FieldType} {R' : Room} {idx n : Nat} {As rest st0 : List Value} {Q : Int64 → kk_St → Prop} (hd : kk_d code pc (.invokevirtual idx) 3 b) (hml : kk_ML RL idx y cc' nL' ret' n false) (hrc : kk_rcv sh_C 0 y) (hn : As.length = n) (hR : kk_fit nL' R' room_1) (hcat : (rest.map fun v => v.category).sum ≤ 8) (hst : st0 = As.reverse ++ .ref (Z1.2.1 0) :: rest) (hM : kk_M Z1 sh_C y cc' nL' ret' R' (.ref (Z1.2.1 0) :: As) σ1 (kk_Ql Z1 sh_C Q)) (k : ∀ (r : Int64) (σ' : kk_St), Q r σ' → LK Z1 Z2 p l e s m below meth c bb cells slots b lv (.long r :: rest) σ' σ2) : LK Z1 Z2 p l e s m below meth c bb cells slots pc lv (st0) σ1 σ2 := by
  obtain ⟨hd, rfl⟩ := hd
  intro H locs ls hP1 hP2 hS hl
  exact va_calll (lk_run C C.2.2.2.2.2.2.2.1 hZ hcl hM hml hrc hn hR hcat hst hP1 hl hd) hS (fun q _ h => lk_AC C hS.1 q h) (lk_AC C hS.1) (fun r u t H1 locs1 ht hvm hw hB hz1 hk1 hS => k r u hw H1 locs1 ls (by rw [← ht]; exact hB) (lk_keepM C hP2 hk1) hS hl)
theorem lkk_callClp (C : lk_C Z1 Z2 p s m meth c bb L xs) (hZ : Z1.1 = l) (hcl : cells ≤ 600000 ∧ slots ≤ 7302250) {y : MethodName} {cc' : ByteArray} {nL' : Nat} {ret' : Option FieldType} {R' : Room} {idx n : Nat} {As rest st0 : List Value} {Q : Int64 → Prop} (hd : kk_d code pc (.invokevirtual idx) 3 b) (hml : kk_ML RL idx y cc' nL' ret' n false) (hrc : kk_rcv sh_C 0 y) (hn : As.length = n) (hR : kk_fit nL' R' room_1) (hcat : (rest.map fun v => v.category).sum ≤ 8) (hst : st0 = As.reverse ++ .ref (Z1.2.1 0) :: rest) (hM : kk_M Z1 sh_C y cc' nL' ret' R' (.ref (Z1.2.1 0) :: As) σ1 (kk_Ql Z1 sh_C (fun r σ' => σ' = σ1 ∧ Q r))) (k : ∀ (r : Int64), Q r → LK Z1 Z2 p l e s m below meth c bb cells slots b lv (.long r :: rest) σ1 σ2) : LK Z1 Z2 p l e s m below meth c bb cells slots pc lv (st0) σ1 σ2 := lkk_callCl C hZ hcl hd hml hrc hn hR hcat hst hM (fun r σ' h => by obtain ⟨rfl, h⟩ := h; exact k r h)
theorem lkk_callMi (C : lk_C Z1 Z2 p s m meth c bb L xs) (hZ : Z2.1 = l) (hcl : cells ≤ 600000 ∧ slots ≤ 7302250) {y : MethodName} {cc' : ByteArray} {nL' : Nat} {ret' : Option FieldType} {R' : Room} {idx n : Nat} {As rest st0 : List Value} {Q : Int32 → kk_St → Prop} (hd : kk_d code pc (.invokevirtual idx) 3 b) (hml : kk_ML RL idx y cc' nL' ret' n false) (hrc : kk_rcv sh_M 0 y) (hn : As.length = n) (hR : kk_fit nL' R' room_1) (hcat : (rest.map fun v => v.category).sum ≤ 8) (hst : st0 = As.reverse ++ .ref (Z2.2.1 0) :: rest) (hM : kk_M Z2 sh_M y cc' nL' ret' R' (.ref (Z2.2.1 0) :: As) σ2 (kk_Qi Z2 sh_M Q)) (k : ∀ (r : Int32) (σ' : kk_St), Q r σ' → LK Z1 Z2 p l e s m below meth c bb cells slots b lv (.int r :: rest) σ1 σ') : LK Z1 Z2 p l e s m below meth c bb cells slots pc lv (st0) σ1 σ2 := by
  obtain ⟨hd, rfl⟩ := hd
  intro H locs ls hP1 hP2 hS hl
  exact va_calli (lk_run C C.2.2.2.2.2.2.2.2.1 hZ hcl hM hml hrc hn hR hcat hst hP2 hl hd) hS (fun q _ h => lk_AM C hS.1 q h) (lk_AM C hS.1) (fun r u t H1 locs1 ht hvm hw hB hz1 hk1 hS => k r u hw H1 locs1 ls (lk_keepC C hP1 hk1) (by rw [← ht]; exact hB) hS hl)
theorem lkk_callMip (C : lk_C Z1 Z2 p s m meth c bb L xs) (hZ : Z2.1 = l) (hcl : cells ≤ 600000 ∧ slots ≤ 7302250) {y : MethodName} {cc' : ByteArray} {nL' : Nat} {ret' : Option FieldType} {R' : Room} {idx n : Nat} {As rest st0 : List Value} {Q : Int32 → Prop} (hd : kk_d code pc (.invokevirtual idx) 3 b) (hml : kk_ML RL idx y cc' nL' ret' n false) (hrc : kk_rcv sh_M 0 y) (hn : As.length = n) (hR : kk_fit nL' R' room_1) (hcat : (rest.map fun v => v.category).sum ≤ 8) (hst : st0 = As.reverse ++ .ref (Z2.2.1 0) :: rest) (hM : kk_M Z2 sh_M y cc' nL' ret' R' (.ref (Z2.2.1 0) :: As) σ2 (kk_Qi Z2 sh_M (fun r σ' => σ' = σ2 ∧ Q r))) (k : ∀ (r : Int32), Q r → LK Z1 Z2 p l e s m below meth c bb cells slots b lv (.int r :: rest) σ1 σ2) : LK Z1 Z2 p l e s m below meth c bb cells slots pc lv (st0) σ1 σ2 := lkk_callMi C hZ hcl hd hml hrc hn hR hcat hst hM (fun r σ' h => by obtain ⟨rfl, h⟩ := h; exact k r h)
theorem lkk_callMl (C : lk_C Z1 Z2 p s m meth c bb L xs) (hZ : Z2.1 = l) (hcl : cells ≤ 600000 ∧ slots ≤ 7302250) {y : MethodName} {cc' : ByteArray} {nL' : Nat} {ret' : Option FieldType} {R' : Room} {idx n : Nat} {As rest st0 : List Value} {Q : Int64 → kk_St → Prop} (hd : kk_d code pc (.invokevirtual idx) 3 b) (hml : kk_ML RL idx y cc' nL' ret' n false) (hrc : kk_rcv sh_M 0 y) (hn : As.length = n) (hR : kk_fit nL' R' room_1) (hcat : (rest.map fun v => v.category).sum ≤ 8) (hst : st0 = As.reverse ++ .ref (Z2.2.1 0) :: rest) (hM : kk_M Z2 sh_M y cc' nL' ret' R' (.ref (Z2.2.1 0) :: As) σ2 (kk_Ql Z2 sh_M Q)) (k : ∀ (r : Int64) (σ' : kk_St), Q r σ' → LK Z1 Z2 p l e s m below meth c bb cells slots b lv (.long r :: rest) σ1 σ') : LK Z1 Z2 p l e s m below meth c bb cells slots pc lv (st0) σ1 σ2 := by
  obtain ⟨hd, rfl⟩ := hd
  intro H locs ls hP1 hP2 hS hl
  exact va_calll (lk_run C C.2.2.2.2.2.2.2.2.1 hZ hcl hM hml hrc hn hR hcat hst hP2 hl hd) hS (fun q _ h => lk_AM C hS.1 q h) (lk_AM C hS.1) (fun r u t H1 locs1 ht hvm hw hB hz1 hk1 hS => k r u hw H1 locs1 ls (lk_keepC C hP1 hk1) (by rw [← ht]; exact hB) hS hl)
theorem lkk_callMlp (C : lk_C Z1 Z2 p s m meth c bb L xs) (hZ : Z2.1 = l) (hcl : cells ≤ 600000 ∧ slots ≤ 7302250) {y : MethodName} {cc' : ByteArray} {nL' : Nat} {ret' : Option FieldType} {R' : Room} {idx n : Nat} {As rest st0 : List Value} {Q : Int64 → Prop} (hd : kk_d code pc (.invokevirtual idx) 3 b) (hml : kk_ML RL idx y cc' nL' ret' n false) (hrc : kk_rcv sh_M 0 y) (hn : As.length = n) (hR : kk_fit nL' R' room_1) (hcat : (rest.map fun v => v.category).sum ≤ 8) (hst : st0 = As.reverse ++ .ref (Z2.2.1 0) :: rest) (hM : kk_M Z2 sh_M y cc' nL' ret' R' (.ref (Z2.2.1 0) :: As) σ2 (kk_Ql Z2 sh_M (fun r σ' => σ' = σ2 ∧ Q r))) (k : ∀ (r : Int64), Q r → LK Z1 Z2 p l e s m below meth c bb cells slots b lv (.long r :: rest) σ1 σ2) : LK Z1 Z2 p l e s m below meth c bb cells slots pc lv (st0) σ1 σ2 := lkk_callMl C hZ hcl hd hml hrc hn hR hcat hst hM (fun r σ' h => by obtain ⟨rfl, h⟩ := h; exact k r h)
theorem lk_in {i : Nat} (hi : i + 5 ≤ L) (hL : L ≤ 2560) (k : Nat) (hk : k < 5) (h0 : 0 < k) : vp_in (nI i + nI k) L := by
  rw [nI_add]
  exact vp_in_nI (by omega) (by omega)
theorem lk_in0 {i : Nat} (hi : i + 5 ≤ L) (hL : L ≤ 2560) : vp_in (nI i) L := vp_in_nI (by omega) (by omega)
end
theorem mlL_13 : kk_ML RL 13 yX10_begin cX10_begin 2 (some .boolean) 1 false := ⟨kk_gm 478 (by decide +kernel) rfl, kk_gm 151 (by decide +kernel) rfl, by decide +kernel, ⟨kk_gm 476 (by decide +kernel) rfl, kk_gm 477 (by decide +kernel) rfl⟩, Or.inl (kk_gm 475 (by decide +kernel) rfl)⟩
theorem mlL_17 : kk_ML RL 17 yX11_begin cX11_begin 2 (some .boolean) 1 false := ⟨kk_gm 1183 (by decide +kernel) rfl, kk_gm 163 (by decide +kernel) rfl, by decide +kernel, ⟨kk_gm 1181 (by decide +kernel) rfl, kk_gm 1182 (by decide +kernel) rfl⟩, Or.inl (kk_gm 1180 (by decide +kernel) rfl)⟩
theorem mlL_18 : kk_ML RL 18 yX10_line cX10_line 4 (some .int) 2 false := ⟨kk_gm 499 (by decide +kernel) rfl, kk_gm 151 (by decide +kernel) rfl, by decide +kernel, ⟨kk_gm 497 (by decide +kernel) rfl, kk_gm 498 (by decide +kernel) rfl⟩, Or.inl (kk_gm 496 (by decide +kernel) rfl)⟩
theorem mlL_22 : kk_ML RL 22 yX11_line cX11_line 3 (some .int) 2 false := ⟨kk_gm 1190 (by decide +kernel) rfl, kk_gm 163 (by decide +kernel) rfl, by decide +kernel, ⟨kk_gm 1188 (by decide +kernel) rfl, kk_gm 1189 (by decide +kernel) rfl⟩, Or.inl (kk_gm 1187 (by decide +kernel) rfl)⟩
theorem mlL_23 : kk_ML RL 23 yX10_paint cX10_paint 3 (some .boolean) 2 false := ⟨kk_gm 539 (by decide +kernel) rfl, kk_gm 151 (by decide +kernel) rfl, by decide +kernel, ⟨kk_gm 537 (by decide +kernel) rfl, kk_gm 538 (by decide +kernel) rfl⟩, Or.inl (kk_gm 536 (by decide +kernel) rfl)⟩
theorem mlL_27 : kk_ML RL 27 yX11_paint cX11_paint 3 (some .boolean) 2 false := ⟨kk_gm 1202 (by decide +kernel) rfl, kk_gm 163 (by decide +kernel) rfl, by decide +kernel, ⟨kk_gm 1200 (by decide +kernel) rfl, kk_gm 1201 (by decide +kernel) rfl⟩, Or.inl (kk_gm 1199 (by decide +kernel) rfl)⟩
theorem mlL_28 : kk_ML RL 28 yX10_bare cX10_bare 3 (some .int) 1 false := ⟨kk_gm 575 (by decide +kernel) rfl, kk_gm 151 (by decide +kernel) rfl, by decide +kernel, ⟨kk_gm 573 (by decide +kernel) rfl, kk_gm 574 (by decide +kernel) rfl⟩, Or.inl (kk_gm 572 (by decide +kernel) rfl)⟩
theorem mlL_32 : kk_ML RL 32 yX11_bare cX11_bare 3 (some .int) 1 false := ⟨kk_gm 1245 (by decide +kernel) rfl, kk_gm 163 (by decide +kernel) rfl, by decide +kernel, ⟨kk_gm 1243 (by decide +kernel) rfl, kk_gm 1244 (by decide +kernel) rfl⟩, Or.inl (kk_gm 1242 (by decide +kernel) rfl)⟩
theorem mlL_33 : kk_ML RL 33 yX10_turn cX10_turn 5 (some .int) 3 false := ⟨kk_gm 580 (by decide +kernel) rfl, kk_gm 151 (by decide +kernel) rfl, by decide +kernel, ⟨kk_gm 578 (by decide +kernel) rfl, kk_gm 579 (by decide +kernel) rfl⟩, Or.inl (kk_gm 577 (by decide +kernel) rfl)⟩
theorem mlL_37 : kk_ML RL 37 yX11_turn cX11_turn 5 (some .int) 3 false := ⟨kk_gm 1249 (by decide +kernel) rfl, kk_gm 163 (by decide +kernel) rfl, by decide +kernel, ⟨kk_gm 1247 (by decide +kernel) rfl, kk_gm 1248 (by decide +kernel) rfl⟩, Or.inl (kk_gm 1246 (by decide +kernel) rfl)⟩
theorem mlL_38 : kk_ML RL 38 yX10_swap cX10_swap 4 (some .int) 2 false := ⟨kk_gm 602 (by decide +kernel) rfl, kk_gm 151 (by decide +kernel) rfl, by decide +kernel, ⟨kk_gm 600 (by decide +kernel) rfl, kk_gm 601 (by decide +kernel) rfl⟩, Or.inl (kk_gm 599 (by decide +kernel) rfl)⟩
theorem mlL_41 : kk_ML RL 41 yX11_swap cX11_swap 3 (some .int) 2 false := ⟨kk_gm 1294 (by decide +kernel) rfl, kk_gm 163 (by decide +kernel) rfl, by decide +kernel, ⟨kk_gm 1292 (by decide +kernel) rfl, kk_gm 1293 (by decide +kernel) rfl⟩, Or.inl (kk_gm 1291 (by decide +kernel) rfl)⟩
theorem mlL_42 : kk_ML RL 42 yX10_grow cX10_grow 2 (some .int) 1 false := ⟨kk_gm 606 (by decide +kernel) rfl, kk_gm 151 (by decide +kernel) rfl, by decide +kernel, ⟨kk_gm 604 (by decide +kernel) rfl, kk_gm 605 (by decide +kernel) rfl⟩, Or.inl (kk_gm 603 (by decide +kernel) rfl)⟩
theorem mlL_45 : kk_ML RL 45 yX11_grow cX11_grow 2 (some .int) 1 false := ⟨kk_gm 1314 (by decide +kernel) rfl, kk_gm 163 (by decide +kernel) rfl, by decide +kernel, ⟨kk_gm 1312 (by decide +kernel) rfl, kk_gm 1313 (by decide +kernel) rfl⟩, Or.inl (kk_gm 1311 (by decide +kernel) rfl)⟩
theorem mlL_46 : kk_ML RL 46 yX10_growAll cX10_growAll 3 (some .int) 0 false := ⟨kk_gm 659 (by decide +kernel) rfl, kk_gm 151 (by decide +kernel) rfl, by decide +kernel, ⟨kk_gm 657 (by decide +kernel) rfl, kk_gm 658 (by decide +kernel) rfl⟩, Or.inl (kk_gm 656 (by decide +kernel) rfl)⟩
theorem mlL_50 : kk_ML RL 50 yX11_growAll cX11_growAll 4 (some .int) 0 false := ⟨kk_gm 1326 (by decide +kernel) rfl, kk_gm 163 (by decide +kernel) rfl, by decide +kernel, ⟨kk_gm 1324 (by decide +kernel) rfl, kk_gm 1325 (by decide +kernel) rfl⟩, Or.inl (kk_gm 1323 (by decide +kernel) rfl)⟩
theorem mlL_51 : kk_ML RL 51 yX10_pair cX10_pair 2 (some .int) 0 false := ⟨kk_gm 663 (by decide +kernel) rfl, kk_gm 151 (by decide +kernel) rfl, by decide +kernel, ⟨kk_gm 661 (by decide +kernel) rfl, kk_gm 662 (by decide +kernel) rfl⟩, Or.inl (kk_gm 660 (by decide +kernel) rfl)⟩
theorem mlL_54 : kk_ML RL 54 yX11_pair cX11_pair 6 (some .int) 0 false := ⟨kk_gm 1346 (by decide +kernel) rfl, kk_gm 163 (by decide +kernel) rfl, by decide +kernel, ⟨kk_gm 1344 (by decide +kernel) rfl, kk_gm 1345 (by decide +kernel) rfl⟩, Or.inl (kk_gm 1343 (by decide +kernel) rfl)⟩
theorem mlL_55 : kk_ML RL 55 yX10_even cX10_even 1 (some .int) 0 false := ⟨kk_gm 684 (by decide +kernel) rfl, kk_gm 151 (by decide +kernel) rfl, by decide +kernel, ⟨kk_gm 682 (by decide +kernel) rfl, kk_gm 683 (by decide +kernel) rfl⟩, Or.inl (kk_gm 681 (by decide +kernel) rfl)⟩
theorem mlL_58 : kk_ML RL 58 yX11_even cX11_even 2 (some .int) 0 false := ⟨kk_gm 1354 (by decide +kernel) rfl, kk_gm 163 (by decide +kernel) rfl, by decide +kernel, ⟨kk_gm 1352 (by decide +kernel) rfl, kk_gm 1353 (by decide +kernel) rfl⟩, Or.inl (kk_gm 1351 (by decide +kernel) rfl)⟩
theorem mlL_59 : kk_ML RL 59 yX10_take cX10_take 3 (some .boolean) 1 false := ⟨kk_gm 707 (by decide +kernel) rfl, kk_gm 151 (by decide +kernel) rfl, by decide +kernel, ⟨kk_gm 705 (by decide +kernel) rfl, kk_gm 706 (by decide +kernel) rfl⟩, Or.inl (kk_gm 704 (by decide +kernel) rfl)⟩
theorem mlL_62 : kk_ML RL 62 yX11_take cX11_take 3 (some .boolean) 1 false := ⟨kk_gm 1422 (by decide +kernel) rfl, kk_gm 163 (by decide +kernel) rfl, by decide +kernel, ⟨kk_gm 1420 (by decide +kernel) rfl, kk_gm 1421 (by decide +kernel) rfl⟩, Or.inl (kk_gm 1419 (by decide +kernel) rfl)⟩
theorem mlL_63 : kk_ML RL 63 yX10_keep cX10_keep 1 (some .boolean) 0 false := ⟨kk_gm 783 (by decide +kernel) rfl, kk_gm 151 (by decide +kernel) rfl, by decide +kernel, ⟨kk_gm 781 (by decide +kernel) rfl, kk_gm 782 (by decide +kernel) rfl⟩, Or.inl (kk_gm 780 (by decide +kernel) rfl)⟩
theorem mlL_67 : kk_ML RL 67 yX11_keep cX11_keep 2 (some .boolean) 0 false := ⟨kk_gm 1573 (by decide +kernel) rfl, kk_gm 163 (by decide +kernel) rfl, by decide +kernel, ⟨kk_gm 1571 (by decide +kernel) rfl, kk_gm 1572 (by decide +kernel) rfl⟩, Or.inl (kk_gm 1570 (by decide +kernel) rfl)⟩
theorem mlL_68 : kk_ML RL 68 yX10_back cX10_back 3 (some .int) 0 false := ⟨kk_gm 790 (by decide +kernel) rfl, kk_gm 151 (by decide +kernel) rfl, by decide +kernel, ⟨kk_gm 788 (by decide +kernel) rfl, kk_gm 789 (by decide +kernel) rfl⟩, Or.inl (kk_gm 787 (by decide +kernel) rfl)⟩
theorem mlL_71 : kk_ML RL 71 yX11_back cX11_back 3 (some .int) 0 false := ⟨kk_gm 1577 (by decide +kernel) rfl, kk_gm 163 (by decide +kernel) rfl, by decide +kernel, ⟨kk_gm 1575 (by decide +kernel) rfl, kk_gm 1576 (by decide +kernel) rfl⟩, Or.inl (kk_gm 1574 (by decide +kernel) rfl)⟩
theorem mlL_72 : kk_ML RL 72 yX10_grown cX10_grown 2 (some .int) 1 false := ⟨kk_gm 798 (by decide +kernel) rfl, kk_gm 151 (by decide +kernel) rfl, by decide +kernel, ⟨kk_gm 796 (by decide +kernel) rfl, kk_gm 797 (by decide +kernel) rfl⟩, Or.inl (kk_gm 795 (by decide +kernel) rfl)⟩
theorem mlL_75 : kk_ML RL 75 yX11_grown cX11_grown 2 (some .int) 1 false := ⟨kk_gm 1330 (by decide +kernel) rfl, kk_gm 163 (by decide +kernel) rfl, by decide +kernel, ⟨kk_gm 1328 (by decide +kernel) rfl, kk_gm 1329 (by decide +kernel) rfl⟩, Or.inl (kk_gm 1327 (by decide +kernel) rfl)⟩
theorem mlL_76 : kk_ML RL 76 yX10_of cX10_of 3 (some .int) 2 false := ⟨kk_gm 802 (by decide +kernel) rfl, kk_gm 151 (by decide +kernel) rfl, by decide +kernel, ⟨kk_gm 800 (by decide +kernel) rfl, kk_gm 801 (by decide +kernel) rfl⟩, Or.inl (kk_gm 799 (by decide +kernel) rfl)⟩
theorem mlL_79 : kk_ML RL 79 yX11_of cX11_of 5 (some .int) 2 false := ⟨kk_gm 1537 (by decide +kernel) rfl, kk_gm 163 (by decide +kernel) rfl, by decide +kernel, ⟨kk_gm 1535 (by decide +kernel) rfl, kk_gm 1536 (by decide +kernel) rfl⟩, Or.inl (kk_gm 1534 (by decide +kernel) rfl)⟩
theorem mlL_80 : kk_ML RL 80 yX10_clash cX10_clash 5 (some .int) 2 false := ⟨kk_gm 806 (by decide +kernel) rfl, kk_gm 151 (by decide +kernel) rfl, by decide +kernel, ⟨kk_gm 804 (by decide +kernel) rfl, kk_gm 805 (by decide +kernel) rfl⟩, Or.inl (kk_gm 803 (by decide +kernel) rfl)⟩
theorem mlL_83 : kk_ML RL 83 yX11_clash cX11_clash 5 (some .int) 2 false := ⟨kk_gm 1541 (by decide +kernel) rfl, kk_gm 163 (by decide +kernel) rfl, by decide +kernel, ⟨kk_gm 1539 (by decide +kernel) rfl, kk_gm 1540 (by decide +kernel) rfl⟩, Or.inl (kk_gm 1538 (by decide +kernel) rfl)⟩
theorem mlL_84 : kk_ML RL 84 yX10_post cX10_post 4 (some .int) 2 false := ⟨kk_gm 811 (by decide +kernel) rfl, kk_gm 151 (by decide +kernel) rfl, by decide +kernel, ⟨kk_gm 809 (by decide +kernel) rfl, kk_gm 810 (by decide +kernel) rfl⟩, Or.inl (kk_gm 808 (by decide +kernel) rfl)⟩
theorem mlL_87 : kk_ML RL 87 yX11_post cX11_post 5 (some .int) 2 false := ⟨kk_gm 1545 (by decide +kernel) rfl, kk_gm 163 (by decide +kernel) rfl, by decide +kernel, ⟨kk_gm 1543 (by decide +kernel) rfl, kk_gm 1544 (by decide +kernel) rfl⟩, Or.inl (kk_gm 1542 (by decide +kernel) rfl)⟩
theorem mlL_88 : kk_ML RL 88 yX10_colour cX10_colour 4 (some .int) 2 false := ⟨kk_gm 823 (by decide +kernel) rfl, kk_gm 151 (by decide +kernel) rfl, by decide +kernel, ⟨kk_gm 821 (by decide +kernel) rfl, kk_gm 822 (by decide +kernel) rfl⟩, Or.inl (kk_gm 820 (by decide +kernel) rfl)⟩
theorem mlL_91 : kk_ML RL 91 yX11_colour cX11_colour 5 (some .int) 2 false := ⟨kk_gm 1549 (by decide +kernel) rfl, kk_gm 163 (by decide +kernel) rfl, by decide +kernel, ⟨kk_gm 1547 (by decide +kernel) rfl, kk_gm 1548 (by decide +kernel) rfl⟩, Or.inl (kk_gm 1546 (by decide +kernel) rfl)⟩
theorem mlL_92 : kk_ML RL 92 yX10_chain cX10_chain 7 (some .int) 4 false := ⟨kk_gm 829 (by decide +kernel) rfl, kk_gm 151 (by decide +kernel) rfl, by decide +kernel, ⟨kk_gm 827 (by decide +kernel) rfl, kk_gm 828 (by decide +kernel) rfl⟩, Or.inl (kk_gm 826 (by decide +kernel) rfl)⟩
theorem mlL_96 : kk_ML RL 96 yX11_chain cX11_chain 8 (some .int) 4 false := ⟨kk_gm 1275 (by decide +kernel) rfl, kk_gm 163 (by decide +kernel) rfl, by decide +kernel, ⟨kk_gm 1273 (by decide +kernel) rfl, kk_gm 1274 (by decide +kernel) rfl⟩, Or.inl (kk_gm 1272 (by decide +kernel) rfl)⟩
theorem mlL_97 : kk_ML RL 97 yX10_idle cX10_idle 2 (some .int) 1 false := ⟨kk_gm 836 (by decide +kernel) rfl, kk_gm 151 (by decide +kernel) rfl, by decide +kernel, ⟨kk_gm 834 (by decide +kernel) rfl, kk_gm 835 (by decide +kernel) rfl⟩, Or.inl (kk_gm 833 (by decide +kernel) rfl)⟩
theorem mlL_100 : kk_ML RL 100 yX11_idle cX11_idle 2 (some .int) 1 false := ⟨kk_gm 1557 (by decide +kernel) rfl, kk_gm 163 (by decide +kernel) rfl, by decide +kernel, ⟨kk_gm 1555 (by decide +kernel) rfl, kk_gm 1556 (by decide +kernel) rfl⟩, Or.inl (kk_gm 1554 (by decide +kernel) rfl)⟩
theorem mlL_101 : kk_ML RL 101 yX10_calmer cX10_calmer 2 (some .int) 1 false := ⟨kk_gm 850 (by decide +kernel) rfl, kk_gm 151 (by decide +kernel) rfl, by decide +kernel, ⟨kk_gm 848 (by decide +kernel) rfl, kk_gm 849 (by decide +kernel) rfl⟩, Or.inl (kk_gm 847 (by decide +kernel) rfl)⟩
theorem mlL_104 : kk_ML RL 104 yX11_calmer cX11_calmer 10 (some .int) 1 false := ⟨kk_gm 1569 (by decide +kernel) rfl, kk_gm 163 (by decide +kernel) rfl, by decide +kernel, ⟨kk_gm 1567 (by decide +kernel) rfl, kk_gm 1568 (by decide +kernel) rfl⟩, Or.inl (kk_gm 1566 (by decide +kernel) rfl)⟩
theorem mlL_105 : kk_ML RL 105 yX10_fan cX10_fan 4 (some .int) 3 false := ⟨kk_gm 860 (by decide +kernel) rfl, kk_gm 151 (by decide +kernel) rfl, by decide +kernel, ⟨kk_gm 858 (by decide +kernel) rfl, kk_gm 859 (by decide +kernel) rfl⟩, Or.inl (kk_gm 857 (by decide +kernel) rfl)⟩
theorem mlL_108 : kk_ML RL 108 yX11_fan cX11_fan 4 (some .int) 3 false := ⟨kk_gm 1302 (by decide +kernel) rfl, kk_gm 163 (by decide +kernel) rfl, by decide +kernel, ⟨kk_gm 1300 (by decide +kernel) rfl, kk_gm 1301 (by decide +kernel) rfl⟩, Or.inl (kk_gm 1299 (by decide +kernel) rfl)⟩
theorem mlL_109 : kk_ML RL 109 yX10_index cX10_index 1 (some .int) 0 false := ⟨kk_gm 865 (by decide +kernel) rfl, kk_gm 151 (by decide +kernel) rfl, by decide +kernel, ⟨kk_gm 863 (by decide +kernel) rfl, kk_gm 864 (by decide +kernel) rfl⟩, Or.inl (kk_gm 862 (by decide +kernel) rfl)⟩
theorem mlL_112 : kk_ML RL 112 yX11_index cX11_index 1 (some .int) 0 false := ⟨kk_gm 1370 (by decide +kernel) rfl, kk_gm 163 (by decide +kernel) rfl, by decide +kernel, ⟨kk_gm 1368 (by decide +kernel) rfl, kk_gm 1369 (by decide +kernel) rfl⟩, Or.inl (kk_gm 1367 (by decide +kernel) rfl)⟩
theorem mlL_113 : kk_ML RL 113 yX10_first cX10_first 3 (some .int) 2 false := ⟨kk_gm 870 (by decide +kernel) rfl, kk_gm 151 (by decide +kernel) rfl, by decide +kernel, ⟨kk_gm 868 (by decide +kernel) rfl, kk_gm 869 (by decide +kernel) rfl⟩, Or.inl (kk_gm 867 (by decide +kernel) rfl)⟩
theorem mlL_116 : kk_ML RL 116 yX11_first cX11_first 3 (some .int) 2 false := ⟨kk_gm 1418 (by decide +kernel) rfl, kk_gm 163 (by decide +kernel) rfl, by decide +kernel, ⟨kk_gm 1416 (by decide +kernel) rfl, kk_gm 1417 (by decide +kernel) rfl⟩, Or.inl (kk_gm 1415 (by decide +kernel) rfl)⟩
theorem mlL_117 : kk_ML RL 117 yX10_overfull cX10_overfull 3 (some .int) 1 false := ⟨kk_gm 877 (by decide +kernel) rfl, kk_gm 151 (by decide +kernel) rfl, by decide +kernel, ⟨kk_gm 875 (by decide +kernel) rfl, kk_gm 876 (by decide +kernel) rfl⟩, Or.inl (kk_gm 874 (by decide +kernel) rfl)⟩
theorem mlL_120 : kk_ML RL 120 yX11_overfull cX11_overfull 3 (some .int) 1 false := ⟨kk_gm 1439 (by decide +kernel) rfl, kk_gm 163 (by decide +kernel) rfl, by decide +kernel, ⟨kk_gm 1437 (by decide +kernel) rfl, kk_gm 1438 (by decide +kernel) rfl⟩, Or.inl (kk_gm 1436 (by decide +kernel) rfl)⟩
theorem mlL_121 : kk_ML RL 121 yX10_refused cX10_refused 4 (some .int) 2 false := ⟨kk_gm 884 (by decide +kernel) rfl, kk_gm 151 (by decide +kernel) rfl, by decide +kernel, ⟨kk_gm 882 (by decide +kernel) rfl, kk_gm 883 (by decide +kernel) rfl⟩, Or.inl (kk_gm 881 (by decide +kernel) rfl)⟩
theorem mlL_124 : kk_ML RL 124 yX11_refused cX11_refused 4 (some .int) 2 false := ⟨kk_gm 1455 (by decide +kernel) rfl, kk_gm 163 (by decide +kernel) rfl, by decide +kernel, ⟨kk_gm 1453 (by decide +kernel) rfl, kk_gm 1454 (by decide +kernel) rfl⟩, Or.inl (kk_gm 1452 (by decide +kernel) rfl)⟩
theorem mlL_125 : kk_ML RL 125 yX10_list cX10_list 4 (some .int) 2 false := ⟨kk_gm 892 (by decide +kernel) rfl, kk_gm 151 (by decide +kernel) rfl, by decide +kernel, ⟨kk_gm 890 (by decide +kernel) rfl, kk_gm 891 (by decide +kernel) rfl⟩, Or.inl (kk_gm 889 (by decide +kernel) rfl)⟩
theorem mlL_128 : kk_ML RL 128 yX11_list cX11_list 4 (some .int) 2 false := ⟨kk_gm 1431 (by decide +kernel) rfl, kk_gm 163 (by decide +kernel) rfl, by decide +kernel, ⟨kk_gm 1429 (by decide +kernel) rfl, kk_gm 1430 (by decide +kernel) rfl⟩, Or.inl (kk_gm 1428 (by decide +kernel) rfl)⟩
theorem mlL_129 : kk_ML RL 129 yX10_listed cX10_listed 2 (some .int) 1 false := ⟨kk_gm 897 (by decide +kernel) rfl, kk_gm 151 (by decide +kernel) rfl, by decide +kernel, ⟨kk_gm 895 (by decide +kernel) rfl, kk_gm 896 (by decide +kernel) rfl⟩, Or.inl (kk_gm 894 (by decide +kernel) rfl)⟩
theorem mlL_132 : kk_ML RL 132 yX11_listed cX11_listed 3 (some .int) 1 false := ⟨kk_gm 1435 (by decide +kernel) rfl, kk_gm 163 (by decide +kernel) rfl, by decide +kernel, ⟨kk_gm 1433 (by decide +kernel) rfl, kk_gm 1434 (by decide +kernel) rfl⟩, Or.inl (kk_gm 1432 (by decide +kernel) rfl)⟩
theorem mlL_133 : kk_ML RL 133 yX10_free cX10_free 2 (some .int) 1 false := ⟨kk_gm 909 (by decide +kernel) rfl, kk_gm 151 (by decide +kernel) rfl, by decide +kernel, ⟨kk_gm 907 (by decide +kernel) rfl, kk_gm 908 (by decide +kernel) rfl⟩, Or.inl (kk_gm 906 (by decide +kernel) rfl)⟩
theorem mlL_136 : kk_ML RL 136 yX11_free cX11_free 2 (some .int) 1 false := ⟨kk_gm 1553 (by decide +kernel) rfl, kk_gm 163 (by decide +kernel) rfl, by decide +kernel, ⟨kk_gm 1551 (by decide +kernel) rfl, kk_gm 1552 (by decide +kernel) rfl⟩, Or.inl (kk_gm 1550 (by decide +kernel) rfl)⟩
theorem mlL_137 : kk_ML RL 137 yX10_longest cX10_longest 7 (some .int) 1 false := ⟨kk_gm 913 (by decide +kernel) rfl, kk_gm 151 (by decide +kernel) rfl, by decide +kernel, ⟨kk_gm 911 (by decide +kernel) rfl, kk_gm 912 (by decide +kernel) rfl⟩, Or.inl (kk_gm 910 (by decide +kernel) rfl)⟩
theorem mlL_140 : kk_ML RL 140 yX11_longest cX11_longest 10 (some .int) 1 false := ⟨kk_gm 1287 (by decide +kernel) rfl, kk_gm 163 (by decide +kernel) rfl, by decide +kernel, ⟨kk_gm 1285 (by decide +kernel) rfl, kk_gm 1286 (by decide +kernel) rfl⟩, Or.inl (kk_gm 1284 (by decide +kernel) rfl)⟩
theorem mlL_141 : kk_ML RL 141 yX10_sets cX10_sets 2 (some .int) 1 false := ⟨kk_gm 921 (by decide +kernel) rfl, kk_gm 151 (by decide +kernel) rfl, by decide +kernel, ⟨kk_gm 919 (by decide +kernel) rfl, kk_gm 920 (by decide +kernel) rfl⟩, Or.inl (kk_gm 918 (by decide +kernel) rfl)⟩
theorem mlL_144 : kk_ML RL 144 yX11_sets cX11_sets 5 (some .int) 1 false := ⟨kk_gm 1533 (by decide +kernel) rfl, kk_gm 163 (by decide +kernel) rfl, by decide +kernel, ⟨kk_gm 1531 (by decide +kernel) rfl, kk_gm 1532 (by decide +kernel) rfl⟩, Or.inl (kk_gm 1530 (by decide +kernel) rfl)⟩
theorem mlL_145 : kk_ML RL 145 yX10_critical cX10_critical 1 (some .int) 0 false := ⟨kk_gm 934 (by decide +kernel) rfl, kk_gm 151 (by decide +kernel) rfl, by decide +kernel, ⟨kk_gm 932 (by decide +kernel) rfl, kk_gm 933 (by decide +kernel) rfl⟩, Or.inl (kk_gm 931 (by decide +kernel) rfl)⟩
theorem mlL_148 : kk_ML RL 148 yX11_critical cX11_critical 4 (some .int) 0 false := ⟨kk_gm 1426 (by decide +kernel) rfl, kk_gm 163 (by decide +kernel) rfl, by decide +kernel, ⟨kk_gm 1424 (by decide +kernel) rfl, kk_gm 1425 (by decide +kernel) rfl⟩, Or.inl (kk_gm 1423 (by decide +kernel) rfl)⟩
theorem mlL_149 : kk_ML RL 149 yX10_kinds cX10_kinds 2 (some .int) 1 false := ⟨kk_gm 942 (by decide +kernel) rfl, kk_gm 151 (by decide +kernel) rfl, by decide +kernel, ⟨kk_gm 940 (by decide +kernel) rfl, kk_gm 941 (by decide +kernel) rfl⟩, Or.inl (kk_gm 939 (by decide +kernel) rfl)⟩
theorem mlL_152 : kk_ML RL 152 yX11_kinds cX11_kinds 4 (some .int) 1 false := ⟨kk_gm 1481 (by decide +kernel) rfl, kk_gm 163 (by decide +kernel) rfl, by decide +kernel, ⟨kk_gm 1479 (by decide +kernel) rfl, kk_gm 1480 (by decide +kernel) rfl⟩, Or.inl (kk_gm 1478 (by decide +kernel) rfl)⟩
theorem mlL_153 : kk_ML RL 153 yX10_turns cX10_turns 2 (some .int) 1 false := ⟨kk_gm 995 (by decide +kernel) rfl, kk_gm 151 (by decide +kernel) rfl, by decide +kernel, ⟨kk_gm 993 (by decide +kernel) rfl, kk_gm 994 (by decide +kernel) rfl⟩, Or.inl (kk_gm 992 (by decide +kernel) rfl)⟩
theorem mlL_156 : kk_ML RL 156 yX11_turns cX11_turns 3 (some .int) 1 false := ⟨kk_gm 1505 (by decide +kernel) rfl, kk_gm 163 (by decide +kernel) rfl, by decide +kernel, ⟨kk_gm 1503 (by decide +kernel) rfl, kk_gm 1504 (by decide +kernel) rfl⟩, Or.inl (kk_gm 1502 (by decide +kernel) rfl)⟩
theorem mlL_157 : kk_ML RL 157 yX10_chains cX10_chains 3 (some .int) 2 false := ⟨kk_gm 1011 (by decide +kernel) rfl, kk_gm 151 (by decide +kernel) rfl, by decide +kernel, ⟨kk_gm 1009 (by decide +kernel) rfl, kk_gm 1010 (by decide +kernel) rfl⟩, Or.inl (kk_gm 1008 (by decide +kernel) rfl)⟩
theorem mlL_160 : kk_ML RL 160 yX11_chains cX11_chains 6 (some .int) 2 false := ⟨kk_gm 1283 (by decide +kernel) rfl, kk_gm 163 (by decide +kernel) rfl, by decide +kernel, ⟨kk_gm 1281 (by decide +kernel) rfl, kk_gm 1282 (by decide +kernel) rfl⟩, Or.inl (kk_gm 1280 (by decide +kernel) rfl)⟩
theorem mlL_161 : kk_ML RL 161 yX10_sides cX10_sides 3 (some .int) 1 false := ⟨kk_gm 1019 (by decide +kernel) rfl, kk_gm 151 (by decide +kernel) rfl, by decide +kernel, ⟨kk_gm 1017 (by decide +kernel) rfl, kk_gm 1018 (by decide +kernel) rfl⟩, Or.inl (kk_gm 1016 (by decide +kernel) rfl)⟩
theorem mlL_164 : kk_ML RL 164 yX11_sides cX11_sides 5 (some .int) 1 false := ⟨kk_gm 1334 (by decide +kernel) rfl, kk_gm 163 (by decide +kernel) rfl, by decide +kernel, ⟨kk_gm 1332 (by decide +kernel) rfl, kk_gm 1333 (by decide +kernel) rfl⟩, Or.inl (kk_gm 1331 (by decide +kernel) rfl)⟩
theorem mlL_165 : kk_ML RL 165 yX10_apart cX10_apart 3 (some .int) 1 false := ⟨kk_gm 1027 (by decide +kernel) rfl, kk_gm 151 (by decide +kernel) rfl, by decide +kernel, ⟨kk_gm 1025 (by decide +kernel) rfl, kk_gm 1026 (by decide +kernel) rfl⟩, Or.inl (kk_gm 1024 (by decide +kernel) rfl)⟩
theorem mlL_168 : kk_ML RL 168 yX11_apart cX11_apart 5 (some .int) 1 false := ⟨kk_gm 1513 (by decide +kernel) rfl, kk_gm 163 (by decide +kernel) rfl, by decide +kernel, ⟨kk_gm 1511 (by decide +kernel) rfl, kk_gm 1512 (by decide +kernel) rfl⟩, Or.inl (kk_gm 1510 (by decide +kernel) rfl)⟩
theorem mlL_169 : kk_ML RL 169 yX10_ways cX10_ways 2 (some .long) 1 false := ⟨kk_gm 1035 (by decide +kernel) rfl, kk_gm 151 (by decide +kernel) rfl, by decide +kernel, ⟨kk_gm 1033 (by decide +kernel) rfl, kk_gm 1034 (by decide +kernel) rfl⟩, Or.inl (kk_gm 1032 (by decide +kernel) rfl)⟩
theorem mlL_173 : kk_ML RL 173 yX11_ways cX11_ways 8 (some .long) 1 false := ⟨kk_gm 1459 (by decide +kernel) rfl, kk_gm 163 (by decide +kernel) rfl, by decide +kernel, ⟨kk_gm 1457 (by decide +kernel) rfl, kk_gm 1458 (by decide +kernel) rfl⟩, Or.inl (kk_gm 1456 (by decide +kernel) rfl)⟩
theorem mlL_174 : kk_ML RL 174 yX10_unlike cX10_unlike 2 (some .int) 1 false := ⟨kk_gm 1051 (by decide +kernel) rfl, kk_gm 151 (by decide +kernel) rfl, by decide +kernel, ⟨kk_gm 1049 (by decide +kernel) rfl, kk_gm 1050 (by decide +kernel) rfl⟩, Or.inl (kk_gm 1048 (by decide +kernel) rfl)⟩
theorem mlL_177 : kk_ML RL 177 yX11_unlike cX11_unlike 2 (some .int) 1 false := ⟨kk_gm 1585 (by decide +kernel) rfl, kk_gm 163 (by decide +kernel) rfl, by decide +kernel, ⟨kk_gm 1583 (by decide +kernel) rfl, kk_gm 1584 (by decide +kernel) rfl⟩, Or.inl (kk_gm 1582 (by decide +kernel) rfl)⟩
theorem mlL_178 : kk_ML RL 178 yX10_count cX10_count 2 (some .int) 1 false := ⟨kk_gm 1059 (by decide +kernel) rfl, kk_gm 151 (by decide +kernel) rfl, by decide +kernel, ⟨kk_gm 1057 (by decide +kernel) rfl, kk_gm 1058 (by decide +kernel) rfl⟩, Or.inl (kk_gm 1056 (by decide +kernel) rfl)⟩
theorem mlL_181 : kk_ML RL 181 yX11_count cX11_count 2 (some .int) 1 false := ⟨kk_gm 1593 (by decide +kernel) rfl, kk_gm 163 (by decide +kernel) rfl, by decide +kernel, ⟨kk_gm 1591 (by decide +kernel) rfl, kk_gm 1592 (by decide +kernel) rfl⟩, Or.inl (kk_gm 1590 (by decide +kernel) rfl)⟩
theorem lsp_63 : (Int8.ofInt 63).toInt32 = (63 : Int32) := by decide +kernel
theorem lit_1 : (1 : Int32) = nI 1 := rfl
theorem lit_2 : (2 : Int32) = nI 2 := rfl
theorem lit_3 : (3 : Int32) = nI 3 := rfl
theorem lit_4 : (4 : Int32) = nI 4 := rfl
theorem lk_len {L : Nat} (hL : L ≤ 2560) : (Int32.ofNat L - 5 : Int32).toInt = (L : Int) - 5 := by
  have h1 : (Int32.ofNat L).toInt = (L : Int) := nI_toInt (by omega)
  rw [Int32.toInt_sub, h1, show (5 : Int32).toInt = 5 from rfl]
  rw [Int.bmod_eq_of_le] <;> omega
theorem lk_i5 (i : Nat) : nI i + Int32.ofInt 5 = nI (i + 5) := by rw [show Int32.ofInt 5 = nI 5 from rfl, nI_add]
def pr_begin (Rel : kk_St → kk_St → Prop) : Prop := ∀ (σ1 σ2 : kk_St), Rel σ1 σ2 → ∀ (v1 : Int32), f_X10_begin v1 σ1 (fun r σ1' => f_X11_begin v1 σ2 (fun r' σ2' => r = r' ∧ Rel σ1' σ2'))
def pr_line (Rel : kk_St → kk_St → Prop) : Prop := ∀ (σ1 σ2 : kk_St), Rel σ1 σ2 → ∀ (v1 v2 : Int32), f_X10_line v1 v2 σ1 (fun r σ1' => f_X11_line v1 v2 σ2 (fun r' σ2' => r = r' ∧ Rel σ1' σ2'))
def pr_paint (Rel : kk_St → kk_St → Prop) : Prop := ∀ (σ1 σ2 : kk_St), Rel σ1 σ2 → ∀ (v1 v2 : Int32), f_X10_paint v1 v2 σ1 (fun r σ1' => f_X11_paint v1 v2 σ2 (fun r' σ2' => r = r' ∧ Rel σ1' σ2'))
def pr_bare (Rel : kk_St → kk_St → Prop) : Prop := ∀ (σ1 σ2 : kk_St), Rel σ1 σ2 → ∀ (v1 : Int32), f_X10_bare v1 σ1 (fun r σ1' => f_X11_bare v1 σ2 (fun r' σ2' => r = r' ∧ Rel σ1' σ2'))
def pr_turn (Rel : kk_St → kk_St → Prop) : Prop := ∀ (σ1 σ2 : kk_St), Rel σ1 σ2 → ∀ (v1 v2 v3 : Int32), f_X10_turn v1 v2 v3 σ1 (fun r σ1' => f_X11_turn v1 v2 v3 σ2 (fun r' σ2' => r = r' ∧ Rel σ1' σ2'))
def pr_swap (Rel : kk_St → kk_St → Prop) : Prop := ∀ (σ1 σ2 : kk_St), Rel σ1 σ2 → ∀ (v1 v2 : Int32), f_X10_swap v1 v2 σ1 (fun r σ1' => f_X11_swap v1 v2 σ2 (fun r' σ2' => r = r' ∧ Rel σ1' σ2'))
def pr_grow (Rel : kk_St → kk_St → Prop) : Prop := ∀ (σ1 σ2 : kk_St), Rel σ1 σ2 → ∀ (v1 : Int32), f_X10_grow v1 σ1 (fun r σ1' => f_X11_grow v1 σ2 (fun r' σ2' => r = r' ∧ Rel σ1' σ2'))
def pr_growAll (Rel : kk_St → kk_St → Prop) : Prop := ∀ (σ1 σ2 : kk_St), Rel σ1 σ2 → ∀ u : Unit, f_X10_growAll σ1 (fun r σ1' => f_X11_growAll σ2 (fun r' σ2' => r = r' ∧ Rel σ1' σ2'))
def pr_pair (Rel : kk_St → kk_St → Prop) : Prop := ∀ (σ1 σ2 : kk_St), Rel σ1 σ2 → ∀ u : Unit, f_X10_pair σ1 (fun r σ1' => f_X11_pair σ2 (fun r' σ2' => r = r' ∧ Rel σ1' σ2'))
def pr_even (Rel : kk_St → kk_St → Prop) : Prop := ∀ (σ1 σ2 : kk_St), Rel σ1 σ2 → ∀ u : Unit, f_X10_even σ1 (fun r σ1' => f_X11_even σ2 (fun r' σ2' => r = r' ∧ Rel σ1' σ2'))
def pr_take (Rel : kk_St → kk_St → Prop) : Prop := ∀ (σ1 σ2 : kk_St), Rel σ1 σ2 → ∀ (v1 : Int32), f_X10_take v1 σ1 (fun r σ1' => f_X11_take v1 σ2 (fun r' σ2' => r = r' ∧ Rel σ1' σ2'))
def pr_keep (Rel : kk_St → kk_St → Prop) : Prop := ∀ (σ1 σ2 : kk_St), Rel σ1 σ2 → ∀ u : Unit, f_X10_keep σ1 (fun r σ1' => f_X11_keep σ2 (fun r' σ2' => r = r' ∧ Rel σ1' σ2'))
def pr_back (Rel : kk_St → kk_St → Prop) : Prop := ∀ (σ1 σ2 : kk_St), Rel σ1 σ2 → ∀ u : Unit, f_X10_back σ1 (fun r σ1' => f_X11_back σ2 (fun r' σ2' => r = r' ∧ Rel σ1' σ2'))
def pr_grown (Rel : kk_St → kk_St → Prop) : Prop := ∀ (σ1 σ2 : kk_St), Rel σ1 σ2 → ∀ (v1 : Int32), f_X10_grown v1 σ1 (fun r => f_X11_grown v1 σ2 (fun r' => r = r' ∧ Rel σ1 σ2))
def pr_of (Rel : kk_St → kk_St → Prop) : Prop := ∀ (σ1 σ2 : kk_St), Rel σ1 σ2 → ∀ (v1 v2 : Int32), f_X10_of v1 v2 σ1 (fun r => f_X11_of v1 v2 σ2 (fun r' => r = r' ∧ Rel σ1 σ2))
def pr_clash (Rel : kk_St → kk_St → Prop) : Prop := ∀ (σ1 σ2 : kk_St), Rel σ1 σ2 → ∀ (v1 v2 : Int32), f_X10_clash v1 v2 σ1 (fun r => f_X11_clash v1 v2 σ2 (fun r' => r = r' ∧ Rel σ1 σ2))
def pr_post (Rel : kk_St → kk_St → Prop) : Prop := ∀ (σ1 σ2 : kk_St), Rel σ1 σ2 → ∀ (v1 v2 : Int32), f_X10_post v1 v2 σ1 (fun r => f_X11_post v1 v2 σ2 (fun r' => r = r' ∧ Rel σ1 σ2))
def pr_colour (Rel : kk_St → kk_St → Prop) : Prop := ∀ (σ1 σ2 : kk_St), Rel σ1 σ2 → ∀ (v1 v2 : Int32), f_X10_colour v1 v2 σ1 (fun r => f_X11_colour v1 v2 σ2 (fun r' => r = r' ∧ Rel σ1 σ2))
def pr_chain (Rel : kk_St → kk_St → Prop) : Prop := ∀ (σ1 σ2 : kk_St), Rel σ1 σ2 → ∀ (v1 v2 v3 v4 : Int32), f_X10_chain v1 v2 v3 v4 σ1 (fun r => f_X11_chain v1 v2 v3 v4 σ2 (fun r' σ2' => r = r' ∧ Rel σ1 σ2'))
def pr_idle (Rel : kk_St → kk_St → Prop) : Prop := ∀ (σ1 σ2 : kk_St), Rel σ1 σ2 → ∀ (v1 : Int32), f_X10_idle v1 σ1 (fun r => f_X11_idle v1 σ2 (fun r' => r = r' ∧ Rel σ1 σ2))
def pr_calmer (Rel : kk_St → kk_St → Prop) : Prop := ∀ (σ1 σ2 : kk_St), Rel σ1 σ2 → ∀ (v1 : Int32), f_X10_calmer v1 σ1 (fun r σ1' => f_X11_calmer v1 σ2 (fun r' σ2' => r = r' ∧ Rel σ1' σ2'))
def pr_fan (Rel : kk_St → kk_St → Prop) : Prop := ∀ (σ1 σ2 : kk_St), Rel σ1 σ2 → ∀ (v1 v2 v3 : Int32), f_X10_fan v1 v2 v3 σ1 (fun r σ1' => f_X11_fan v1 v2 v3 σ2 (fun r' σ2' => r = r' ∧ Rel σ1' σ2'))
def pr_index (Rel : kk_St → kk_St → Prop) : Prop := ∀ (σ1 σ2 : kk_St), Rel σ1 σ2 → ∀ u : Unit, f_X10_index σ1 (fun r σ1' => f_X11_index σ2 (fun r' σ2' => r = r' ∧ Rel σ1' σ2'))
def pr_first (Rel : kk_St → kk_St → Prop) : Prop := ∀ (σ1 σ2 : kk_St), Rel σ1 σ2 → ∀ (v1 v2 : Int32), f_X10_first v1 v2 σ1 (fun r σ1' => f_X11_first v1 v2 σ2 (fun r' σ2' => r = r' ∧ Rel σ1' σ2'))
def pr_overfull (Rel : kk_St → kk_St → Prop) : Prop := ∀ (σ1 σ2 : kk_St), Rel σ1 σ2 → ∀ (v1 : Int32), f_X10_overfull v1 σ1 (fun r => f_X11_overfull v1 σ2 (fun r' => r = r' ∧ Rel σ1 σ2))
def pr_refused (Rel : kk_St → kk_St → Prop) : Prop := ∀ (σ1 σ2 : kk_St), Rel σ1 σ2 → ∀ (v1 v2 : Int32), f_X10_refused v1 v2 σ1 (fun r σ1' => f_X11_refused v1 v2 σ2 (fun r' σ2' => r = r' ∧ Rel σ1' σ2'))
def pr_list (Rel : kk_St → kk_St → Prop) : Prop := ∀ (σ1 σ2 : kk_St), Rel σ1 σ2 → ∀ (v1 v2 : Int32), f_X10_list v1 v2 σ1 (fun r σ1' => f_X11_list v1 v2 σ2 (fun r' σ2' => r = r' ∧ Rel σ1' σ2'))
def pr_listed (Rel : kk_St → kk_St → Prop) : Prop := ∀ (σ1 σ2 : kk_St), Rel σ1 σ2 → ∀ (v1 : Int32), f_X10_listed v1 σ1 (fun r σ1' => f_X11_listed v1 σ2 (fun r' σ2' => r = r' ∧ Rel σ1' σ2'))
def pr_free (Rel : kk_St → kk_St → Prop) : Prop := ∀ (σ1 σ2 : kk_St), Rel σ1 σ2 → ∀ (v1 : Int32), f_X10_free v1 σ1 (fun r => f_X11_free v1 σ2 (fun r' => r = r' ∧ Rel σ1 σ2))
def pr_longest (Rel : kk_St → kk_St → Prop) : Prop := ∀ (σ1 σ2 : kk_St), Rel σ1 σ2 → ∀ (v1 : Int32), f_X10_longest v1 σ1 (fun r => f_X11_longest v1 σ2 (fun r' σ2' => r = r' ∧ Rel σ1 σ2'))
def pr_sets (Rel : kk_St → kk_St → Prop) : Prop := ∀ (σ1 σ2 : kk_St), Rel σ1 σ2 → ∀ (v1 : Int32), f_X10_sets v1 σ1 (fun r σ1' => f_X11_sets v1 σ2 (fun r' σ2' => r = r' ∧ Rel σ1' σ2'))
def pr_critical (Rel : kk_St → kk_St → Prop) : Prop := ∀ (σ1 σ2 : kk_St), Rel σ1 σ2 → ∀ u : Unit, f_X10_critical σ1 (fun r σ1' => f_X11_critical σ2 (fun r' σ2' => r = r' ∧ Rel σ1' σ2'))
def pr_kinds (Rel : kk_St → kk_St → Prop) : Prop := ∀ (σ1 σ2 : kk_St), Rel σ1 σ2 → ∀ (v1 : Int32), f_X10_kinds v1 σ1 (fun r σ1' => f_X11_kinds v1 σ2 (fun r' σ2' => r = r' ∧ Rel σ1' σ2'))
def pr_turns (Rel : kk_St → kk_St → Prop) : Prop := ∀ (σ1 σ2 : kk_St), Rel σ1 σ2 → ∀ (v1 : Int32), f_X10_turns v1 σ1 (fun r σ1' => f_X11_turns v1 σ2 (fun r' σ2' => r = r' ∧ Rel σ1' σ2'))
def pr_chains (Rel : kk_St → kk_St → Prop) : Prop := ∀ (σ1 σ2 : kk_St), Rel σ1 σ2 → ∀ (v1 v2 : Int32), f_X10_chains v1 v2 σ1 (fun r => f_X11_chains v1 v2 σ2 (fun r' σ2' => r = r' ∧ Rel σ1 σ2'))
def pr_sides (Rel : kk_St → kk_St → Prop) : Prop := ∀ (σ1 σ2 : kk_St), Rel σ1 σ2 → ∀ (v1 : Int32), f_X10_sides v1 σ1 (fun r => f_X11_sides v1 σ2 (fun r' σ2' => r = r' ∧ Rel σ1 σ2'))
def pr_apart (Rel : kk_St → kk_St → Prop) : Prop := ∀ (σ1 σ2 : kk_St), Rel σ1 σ2 → ∀ (v1 : Int32), f_X10_apart v1 σ1 (fun r σ1' => f_X11_apart v1 σ2 (fun r' σ2' => r = r' ∧ Rel σ1' σ2'))
def pr_ways (Rel : kk_St → kk_St → Prop) : Prop := ∀ (σ1 σ2 : kk_St), Rel σ1 σ2 → ∀ (v1 : Int32), f_X10_ways v1 σ1 (fun r σ1' => f_X11_ways v1 σ2 (fun r' σ2' => r = r' ∧ Rel σ1' σ2'))
def pr_unlike (Rel : kk_St → kk_St → Prop) : Prop := ∀ (σ1 σ2 : kk_St), Rel σ1 σ2 → ∀ (v1 : Int32), f_X10_unlike v1 σ1 (fun r => f_X11_unlike v1 σ2 (fun r' => r = r' ∧ Rel σ1 σ2))
def pr_count (Rel : kk_St → kk_St → Prop) : Prop := ∀ (σ1 σ2 : kk_St), Rel σ1 σ2 → ∀ (v1 : Int32), f_X10_count v1 σ1 (fun r => f_X11_count v1 σ2 (fun r' => r = r' ∧ Rel σ1 σ2))
set_option maxRecDepth 4000 in
theorem lc_begin {Rel : kk_St → kk_St → Prop} (hp : pr_begin Rel) {Z1 Z2 : kk_Z} {p : Program} {l : Launch} {e : Env} {s : State} {m : MethodId} {below : List Frame} {meth : Method} {c : Code} {b L cells slots : Nat} {xs : Nat → Int32} (C : lk_C Z1 Z2 p s m meth c b L xs) (hZ1 : Z1.1 = l) (hZ2 : Z2.1 = l) (hcl : cells ≤ 600000 ∧ slots ≤ 7302250) (hL : L ≤ 2560) {i : Nat} (hi : i + 5 ≤ L) (σ1 σ2 : kk_St) (hR : Rel σ1 σ2) (kend : ∀ σ1 σ2, Rel σ1 σ2 → LK Z1 Z2 p l e s m below meth c b cells slots 1239 [(0, .ref b), (1, .ref (Z1.2.1 0)), (2, .ref (Z2.2.1 0)), (3, .int (nI i))] [] σ1 σ2) : LK Z1 Z2 p l e s m below meth c b cells slots 208 [(0, .ref b), (1, .ref (Z1.2.1 0)), (2, .ref (Z2.2.1 0)), (3, .int (nI i))] [] σ1 σ2 := by
  have h := hp σ1 σ2 hR (xs (nI i + (1 : Int32)).toNatClampNeg)
  refine lkk_aload_n C 1 rfl e_L_208 ?_
  refine lkk_aload_n C 0 rfl e_L_209 ?_
  refine lkk_iload_n C 3 rfl e_L_210 ?_
  refine lkk_iconst C ic_1 e_L_211 ?_
  refine lkk_iadd C e_L_212 ?_
  refine lkk_sld C e_L_213 (lk_in hi hL 1 (by omega) (by omega)) ?_
  refine lkk_callCi C hZ1 hcl (As := [.int (xs (nI i + (1 : Int32)).toNatClampNeg)]) (rest := []) e_L_214 mlL_13 ⟨_, _, _, _, rfl, rfl⟩ rfl (kk_fitL (Nat.le_of_ble_eq_true rfl) (by decide)) (Nat.le_of_ble_eq_true rfl) rfl (s_X10_begin Z1 (xs (nI i + (1 : Int32)).toNatClampNeg) σ1 _ h) (fun r σ1' h => ?_)
  refine lkk_aload_n C 2 rfl e_L_217 ?_
  refine lkk_aload_n C 0 rfl e_L_218 ?_
  refine lkk_iload_n C 3 rfl e_L_219 ?_
  refine lkk_iconst C ic_1 e_L_220 ?_
  refine lkk_iadd C e_L_221 ?_
  refine lkk_sld C e_L_222 (lk_in hi hL 1 (by omega) (by omega)) ?_
  refine lkk_callMi C hZ2 hcl (As := [.int (xs (nI i + (1 : Int32)).toNatClampNeg)]) (rest := [.int r]) e_L_223 mlL_17 ⟨_, _, _, _, rfl, rfl⟩ rfl (kk_fitL (Nat.le_of_ble_eq_true rfl) (by decide)) (Nat.le_of_ble_eq_true rfl) rfl (s_X11_begin Z2 (xs (nI i + (1 : Int32)).toNatClampNeg) σ2 _ h) (fun r' σ2' h => ?_)
  refine lkk_icmp_eq C e_L_226 (fun _ => ?_) (fun c1 => absurd h.1 c1)
  exact kend σ1' σ2' h.2
set_option maxRecDepth 4000 in
theorem lc_line {Rel : kk_St → kk_St → Prop} (hp : pr_line Rel) {Z1 Z2 : kk_Z} {p : Program} {l : Launch} {e : Env} {s : State} {m : MethodId} {below : List Frame} {meth : Method} {c : Code} {b L cells slots : Nat} {xs : Nat → Int32} (C : lk_C Z1 Z2 p s m meth c b L xs) (hZ1 : Z1.1 = l) (hZ2 : Z2.1 = l) (hcl : cells ≤ 600000 ∧ slots ≤ 7302250) (hL : L ≤ 2560) {i : Nat} (hi : i + 5 ≤ L) (σ1 σ2 : kk_St) (hR : Rel σ1 σ2) (kend : ∀ σ1 σ2, Rel σ1 σ2 → LK Z1 Z2 p l e s m below meth c b cells slots 1239 [(0, .ref b), (1, .ref (Z1.2.1 0)), (2, .ref (Z2.2.1 0)), (3, .int (nI i))] [] σ1 σ2) : LK Z1 Z2 p l e s m below meth c b cells slots 231 [(0, .ref b), (1, .ref (Z1.2.1 0)), (2, .ref (Z2.2.1 0)), (3, .int (nI i))] [] σ1 σ2 := by
  have h := hp σ1 σ2 hR (xs (nI i + (1 : Int32)).toNatClampNeg) (xs (nI i + (2 : Int32)).toNatClampNeg)
  refine lkk_aload_n C 1 rfl e_L_231 ?_
  refine lkk_aload_n C 0 rfl e_L_232 ?_
  refine lkk_iload_n C 3 rfl e_L_233 ?_
  refine lkk_iconst C ic_1 e_L_234 ?_
  refine lkk_iadd C e_L_235 ?_
  refine lkk_sld C e_L_236 (lk_in hi hL 1 (by omega) (by omega)) ?_
  refine lkk_aload_n C 0 rfl e_L_237 ?_
  refine lkk_iload_n C 3 rfl e_L_238 ?_
  refine lkk_iconst C ic_2 e_L_239 ?_
  refine lkk_iadd C e_L_240 ?_
  refine lkk_sld C e_L_241 (lk_in hi hL 2 (by omega) (by omega)) ?_
  refine lkk_callCi C hZ1 hcl (As := [.int (xs (nI i + (1 : Int32)).toNatClampNeg), .int (xs (nI i + (2 : Int32)).toNatClampNeg)]) (rest := []) e_L_242 mlL_18 ⟨_, _, _, _, rfl, rfl⟩ rfl (kk_fitL (Nat.le_of_ble_eq_true rfl) (by decide)) (Nat.le_of_ble_eq_true rfl) rfl (s_X10_line Z1 (xs (nI i + (1 : Int32)).toNatClampNeg) (xs (nI i + (2 : Int32)).toNatClampNeg) σ1 _ h) (fun r σ1' h => ?_)
  refine lkk_aload_n C 2 rfl e_L_245 ?_
  refine lkk_aload_n C 0 rfl e_L_246 ?_
  refine lkk_iload_n C 3 rfl e_L_247 ?_
  refine lkk_iconst C ic_1 e_L_248 ?_
  refine lkk_iadd C e_L_249 ?_
  refine lkk_sld C e_L_250 (lk_in hi hL 1 (by omega) (by omega)) ?_
  refine lkk_aload_n C 0 rfl e_L_251 ?_
  refine lkk_iload_n C 3 rfl e_L_252 ?_
  refine lkk_iconst C ic_2 e_L_253 ?_
  refine lkk_iadd C e_L_254 ?_
  refine lkk_sld C e_L_255 (lk_in hi hL 2 (by omega) (by omega)) ?_
  refine lkk_callMi C hZ2 hcl (As := [.int (xs (nI i + (1 : Int32)).toNatClampNeg), .int (xs (nI i + (2 : Int32)).toNatClampNeg)]) (rest := [.int r]) e_L_256 mlL_22 ⟨_, _, _, _, rfl, rfl⟩ rfl (kk_fitL (Nat.le_of_ble_eq_true rfl) (by decide)) (Nat.le_of_ble_eq_true rfl) rfl (s_X11_line Z2 (xs (nI i + (1 : Int32)).toNatClampNeg) (xs (nI i + (2 : Int32)).toNatClampNeg) σ2 _ h) (fun r' σ2' h => ?_)
  refine lkk_icmp_eq C e_L_259 (fun _ => ?_) (fun c1 => absurd h.1 c1)
  exact kend σ1' σ2' h.2
set_option maxRecDepth 4000 in
theorem lc_paint {Rel : kk_St → kk_St → Prop} (hp : pr_paint Rel) {Z1 Z2 : kk_Z} {p : Program} {l : Launch} {e : Env} {s : State} {m : MethodId} {below : List Frame} {meth : Method} {c : Code} {b L cells slots : Nat} {xs : Nat → Int32} (C : lk_C Z1 Z2 p s m meth c b L xs) (hZ1 : Z1.1 = l) (hZ2 : Z2.1 = l) (hcl : cells ≤ 600000 ∧ slots ≤ 7302250) (hL : L ≤ 2560) {i : Nat} (hi : i + 5 ≤ L) (σ1 σ2 : kk_St) (hR : Rel σ1 σ2) (kend : ∀ σ1 σ2, Rel σ1 σ2 → LK Z1 Z2 p l e s m below meth c b cells slots 1239 [(0, .ref b), (1, .ref (Z1.2.1 0)), (2, .ref (Z2.2.1 0)), (3, .int (nI i))] [] σ1 σ2) : LK Z1 Z2 p l e s m below meth c b cells slots 264 [(0, .ref b), (1, .ref (Z1.2.1 0)), (2, .ref (Z2.2.1 0)), (3, .int (nI i))] [] σ1 σ2 := by
  have h := hp σ1 σ2 hR (xs (nI i + (1 : Int32)).toNatClampNeg) (xs (nI i + (2 : Int32)).toNatClampNeg)
  refine lkk_aload_n C 1 rfl e_L_264 ?_
  refine lkk_aload_n C 0 rfl e_L_265 ?_
  refine lkk_iload_n C 3 rfl e_L_266 ?_
  refine lkk_iconst C ic_1 e_L_267 ?_
  refine lkk_iadd C e_L_268 ?_
  refine lkk_sld C e_L_269 (lk_in hi hL 1 (by omega) (by omega)) ?_
  refine lkk_aload_n C 0 rfl e_L_270 ?_
  refine lkk_iload_n C 3 rfl e_L_271 ?_
  refine lkk_iconst C ic_2 e_L_272 ?_
  refine lkk_iadd C e_L_273 ?_
  refine lkk_sld C e_L_274 (lk_in hi hL 2 (by omega) (by omega)) ?_
  refine lkk_callCi C hZ1 hcl (As := [.int (xs (nI i + (1 : Int32)).toNatClampNeg), .int (xs (nI i + (2 : Int32)).toNatClampNeg)]) (rest := []) e_L_275 mlL_23 ⟨_, _, _, _, rfl, rfl⟩ rfl (kk_fitL (Nat.le_of_ble_eq_true rfl) (by decide)) (Nat.le_of_ble_eq_true rfl) rfl (s_X10_paint Z1 (xs (nI i + (1 : Int32)).toNatClampNeg) (xs (nI i + (2 : Int32)).toNatClampNeg) σ1 _ h) (fun r σ1' h => ?_)
  refine lkk_aload_n C 2 rfl e_L_278 ?_
  refine lkk_aload_n C 0 rfl e_L_279 ?_
  refine lkk_iload_n C 3 rfl e_L_280 ?_
  refine lkk_iconst C ic_1 e_L_281 ?_
  refine lkk_iadd C e_L_282 ?_
  refine lkk_sld C e_L_283 (lk_in hi hL 1 (by omega) (by omega)) ?_
  refine lkk_aload_n C 0 rfl e_L_284 ?_
  refine lkk_iload_n C 3 rfl e_L_285 ?_
  refine lkk_iconst C ic_2 e_L_286 ?_
  refine lkk_iadd C e_L_287 ?_
  refine lkk_sld C e_L_288 (lk_in hi hL 2 (by omega) (by omega)) ?_
  refine lkk_callMi C hZ2 hcl (As := [.int (xs (nI i + (1 : Int32)).toNatClampNeg), .int (xs (nI i + (2 : Int32)).toNatClampNeg)]) (rest := [.int r]) e_L_289 mlL_27 ⟨_, _, _, _, rfl, rfl⟩ rfl (kk_fitL (Nat.le_of_ble_eq_true rfl) (by decide)) (Nat.le_of_ble_eq_true rfl) rfl (s_X11_paint Z2 (xs (nI i + (1 : Int32)).toNatClampNeg) (xs (nI i + (2 : Int32)).toNatClampNeg) σ2 _ h) (fun r' σ2' h => ?_)
  refine lkk_icmp_eq C e_L_292 (fun _ => ?_) (fun c1 => absurd h.1 c1)
  exact kend σ1' σ2' h.2
set_option maxRecDepth 4000 in
theorem lc_bare {Rel : kk_St → kk_St → Prop} (hp : pr_bare Rel) {Z1 Z2 : kk_Z} {p : Program} {l : Launch} {e : Env} {s : State} {m : MethodId} {below : List Frame} {meth : Method} {c : Code} {b L cells slots : Nat} {xs : Nat → Int32} (C : lk_C Z1 Z2 p s m meth c b L xs) (hZ1 : Z1.1 = l) (hZ2 : Z2.1 = l) (hcl : cells ≤ 600000 ∧ slots ≤ 7302250) (hL : L ≤ 2560) {i : Nat} (hi : i + 5 ≤ L) (σ1 σ2 : kk_St) (hR : Rel σ1 σ2) (kend : ∀ σ1 σ2, Rel σ1 σ2 → LK Z1 Z2 p l e s m below meth c b cells slots 1239 [(0, .ref b), (1, .ref (Z1.2.1 0)), (2, .ref (Z2.2.1 0)), (3, .int (nI i))] [] σ1 σ2) : LK Z1 Z2 p l e s m below meth c b cells slots 297 [(0, .ref b), (1, .ref (Z1.2.1 0)), (2, .ref (Z2.2.1 0)), (3, .int (nI i))] [] σ1 σ2 := by
  have h := hp σ1 σ2 hR (xs (nI i + (1 : Int32)).toNatClampNeg)
  refine lkk_aload_n C 1 rfl e_L_297 ?_
  refine lkk_aload_n C 0 rfl e_L_298 ?_
  refine lkk_iload_n C 3 rfl e_L_299 ?_
  refine lkk_iconst C ic_1 e_L_300 ?_
  refine lkk_iadd C e_L_301 ?_
  refine lkk_sld C e_L_302 (lk_in hi hL 1 (by omega) (by omega)) ?_
  refine lkk_callCi C hZ1 hcl (As := [.int (xs (nI i + (1 : Int32)).toNatClampNeg)]) (rest := []) e_L_303 mlL_28 ⟨_, _, _, _, rfl, rfl⟩ rfl (kk_fitL (Nat.le_of_ble_eq_true rfl) (by decide)) (Nat.le_of_ble_eq_true rfl) rfl (s_X10_bare Z1 (xs (nI i + (1 : Int32)).toNatClampNeg) σ1 _ h) (fun r σ1' h => ?_)
  refine lkk_aload_n C 2 rfl e_L_306 ?_
  refine lkk_aload_n C 0 rfl e_L_307 ?_
  refine lkk_iload_n C 3 rfl e_L_308 ?_
  refine lkk_iconst C ic_1 e_L_309 ?_
  refine lkk_iadd C e_L_310 ?_
  refine lkk_sld C e_L_311 (lk_in hi hL 1 (by omega) (by omega)) ?_
  refine lkk_callMi C hZ2 hcl (As := [.int (xs (nI i + (1 : Int32)).toNatClampNeg)]) (rest := [.int r]) e_L_312 mlL_32 ⟨_, _, _, _, rfl, rfl⟩ rfl (kk_fitL (Nat.le_of_ble_eq_true rfl) (by decide)) (Nat.le_of_ble_eq_true rfl) rfl (s_X11_bare Z2 (xs (nI i + (1 : Int32)).toNatClampNeg) σ2 _ h) (fun r' σ2' h => ?_)
  refine lkk_icmp_eq C e_L_315 (fun _ => ?_) (fun c1 => absurd h.1 c1)
  exact kend σ1' σ2' h.2
set_option maxRecDepth 4000 in
theorem lc_turn {Rel : kk_St → kk_St → Prop} (hp : pr_turn Rel) {Z1 Z2 : kk_Z} {p : Program} {l : Launch} {e : Env} {s : State} {m : MethodId} {below : List Frame} {meth : Method} {c : Code} {b L cells slots : Nat} {xs : Nat → Int32} (C : lk_C Z1 Z2 p s m meth c b L xs) (hZ1 : Z1.1 = l) (hZ2 : Z2.1 = l) (hcl : cells ≤ 600000 ∧ slots ≤ 7302250) (hL : L ≤ 2560) {i : Nat} (hi : i + 5 ≤ L) (σ1 σ2 : kk_St) (hR : Rel σ1 σ2) (kend : ∀ σ1 σ2, Rel σ1 σ2 → LK Z1 Z2 p l e s m below meth c b cells slots 1239 [(0, .ref b), (1, .ref (Z1.2.1 0)), (2, .ref (Z2.2.1 0)), (3, .int (nI i))] [] σ1 σ2) : LK Z1 Z2 p l e s m below meth c b cells slots 320 [(0, .ref b), (1, .ref (Z1.2.1 0)), (2, .ref (Z2.2.1 0)), (3, .int (nI i))] [] σ1 σ2 := by
  have h := hp σ1 σ2 hR (xs (nI i + (1 : Int32)).toNatClampNeg) (xs (nI i + (2 : Int32)).toNatClampNeg) (xs (nI i + (3 : Int32)).toNatClampNeg)
  refine lkk_aload_n C 1 rfl e_L_320 ?_
  refine lkk_aload_n C 0 rfl e_L_321 ?_
  refine lkk_iload_n C 3 rfl e_L_322 ?_
  refine lkk_iconst C ic_1 e_L_323 ?_
  refine lkk_iadd C e_L_324 ?_
  refine lkk_sld C e_L_325 (lk_in hi hL 1 (by omega) (by omega)) ?_
  refine lkk_aload_n C 0 rfl e_L_326 ?_
  refine lkk_iload_n C 3 rfl e_L_327 ?_
  refine lkk_iconst C ic_2 e_L_328 ?_
  refine lkk_iadd C e_L_329 ?_
  refine lkk_sld C e_L_330 (lk_in hi hL 2 (by omega) (by omega)) ?_
  refine lkk_aload_n C 0 rfl e_L_331 ?_
  refine lkk_iload_n C 3 rfl e_L_332 ?_
  refine lkk_iconst C ic_3 e_L_333 ?_
  refine lkk_iadd C e_L_334 ?_
  refine lkk_sld C e_L_335 (lk_in hi hL 3 (by omega) (by omega)) ?_
  refine lkk_callCi C hZ1 hcl (As := [.int (xs (nI i + (1 : Int32)).toNatClampNeg), .int (xs (nI i + (2 : Int32)).toNatClampNeg), .int (xs (nI i + (3 : Int32)).toNatClampNeg)]) (rest := []) e_L_336 mlL_33 ⟨_, _, _, _, rfl, rfl⟩ rfl (kk_fitL (Nat.le_of_ble_eq_true rfl) (by decide)) (Nat.le_of_ble_eq_true rfl) rfl (s_X10_turn Z1 (xs (nI i + (1 : Int32)).toNatClampNeg) (xs (nI i + (2 : Int32)).toNatClampNeg) (xs (nI i + (3 : Int32)).toNatClampNeg) σ1 _ h) (fun r σ1' h => ?_)
  refine lkk_aload_n C 2 rfl e_L_339 ?_
  refine lkk_aload_n C 0 rfl e_L_340 ?_
  refine lkk_iload_n C 3 rfl e_L_341 ?_
  refine lkk_iconst C ic_1 e_L_342 ?_
  refine lkk_iadd C e_L_343 ?_
  refine lkk_sld C e_L_344 (lk_in hi hL 1 (by omega) (by omega)) ?_
  refine lkk_aload_n C 0 rfl e_L_345 ?_
  refine lkk_iload_n C 3 rfl e_L_346 ?_
  refine lkk_iconst C ic_2 e_L_347 ?_
  refine lkk_iadd C e_L_348 ?_
  refine lkk_sld C e_L_349 (lk_in hi hL 2 (by omega) (by omega)) ?_
  refine lkk_aload_n C 0 rfl e_L_350 ?_
  refine lkk_iload_n C 3 rfl e_L_351 ?_
  refine lkk_iconst C ic_3 e_L_352 ?_
  refine lkk_iadd C e_L_353 ?_
  refine lkk_sld C e_L_354 (lk_in hi hL 3 (by omega) (by omega)) ?_
  refine lkk_callMi C hZ2 hcl (As := [.int (xs (nI i + (1 : Int32)).toNatClampNeg), .int (xs (nI i + (2 : Int32)).toNatClampNeg), .int (xs (nI i + (3 : Int32)).toNatClampNeg)]) (rest := [.int r]) e_L_355 mlL_37 ⟨_, _, _, _, rfl, rfl⟩ rfl (kk_fitL (Nat.le_of_ble_eq_true rfl) (by decide)) (Nat.le_of_ble_eq_true rfl) rfl (s_X11_turn Z2 (xs (nI i + (1 : Int32)).toNatClampNeg) (xs (nI i + (2 : Int32)).toNatClampNeg) (xs (nI i + (3 : Int32)).toNatClampNeg) σ2 _ h) (fun r' σ2' h => ?_)
  refine lkk_icmp_eq C e_L_358 (fun _ => ?_) (fun c1 => absurd h.1 c1)
  exact kend σ1' σ2' h.2
set_option maxRecDepth 4000 in
theorem lc_swap {Rel : kk_St → kk_St → Prop} (hp : pr_swap Rel) {Z1 Z2 : kk_Z} {p : Program} {l : Launch} {e : Env} {s : State} {m : MethodId} {below : List Frame} {meth : Method} {c : Code} {b L cells slots : Nat} {xs : Nat → Int32} (C : lk_C Z1 Z2 p s m meth c b L xs) (hZ1 : Z1.1 = l) (hZ2 : Z2.1 = l) (hcl : cells ≤ 600000 ∧ slots ≤ 7302250) (hL : L ≤ 2560) {i : Nat} (hi : i + 5 ≤ L) (σ1 σ2 : kk_St) (hR : Rel σ1 σ2) (kend : ∀ σ1 σ2, Rel σ1 σ2 → LK Z1 Z2 p l e s m below meth c b cells slots 1239 [(0, .ref b), (1, .ref (Z1.2.1 0)), (2, .ref (Z2.2.1 0)), (3, .int (nI i))] [] σ1 σ2) : LK Z1 Z2 p l e s m below meth c b cells slots 363 [(0, .ref b), (1, .ref (Z1.2.1 0)), (2, .ref (Z2.2.1 0)), (3, .int (nI i))] [] σ1 σ2 := by
  have h := hp σ1 σ2 hR (xs (nI i + (1 : Int32)).toNatClampNeg) (xs (nI i + (2 : Int32)).toNatClampNeg)
  refine lkk_aload_n C 1 rfl e_L_363 ?_
  refine lkk_aload_n C 0 rfl e_L_364 ?_
  refine lkk_iload_n C 3 rfl e_L_365 ?_
  refine lkk_iconst C ic_1 e_L_366 ?_
  refine lkk_iadd C e_L_367 ?_
  refine lkk_sld C e_L_368 (lk_in hi hL 1 (by omega) (by omega)) ?_
  refine lkk_aload_n C 0 rfl e_L_369 ?_
  refine lkk_iload_n C 3 rfl e_L_370 ?_
  refine lkk_iconst C ic_2 e_L_371 ?_
  refine lkk_iadd C e_L_372 ?_
  refine lkk_sld C e_L_373 (lk_in hi hL 2 (by omega) (by omega)) ?_
  refine lkk_callCi C hZ1 hcl (As := [.int (xs (nI i + (1 : Int32)).toNatClampNeg), .int (xs (nI i + (2 : Int32)).toNatClampNeg)]) (rest := []) e_L_374 mlL_38 ⟨_, _, _, _, rfl, rfl⟩ rfl (kk_fitL (Nat.le_of_ble_eq_true rfl) (by decide)) (Nat.le_of_ble_eq_true rfl) rfl (s_X10_swap Z1 (xs (nI i + (1 : Int32)).toNatClampNeg) (xs (nI i + (2 : Int32)).toNatClampNeg) σ1 _ h) (fun r σ1' h => ?_)
  refine lkk_aload_n C 2 rfl e_L_377 ?_
  refine lkk_aload_n C 0 rfl e_L_378 ?_
  refine lkk_iload_n C 3 rfl e_L_379 ?_
  refine lkk_iconst C ic_1 e_L_380 ?_
  refine lkk_iadd C e_L_381 ?_
  refine lkk_sld C e_L_382 (lk_in hi hL 1 (by omega) (by omega)) ?_
  refine lkk_aload_n C 0 rfl e_L_383 ?_
  refine lkk_iload_n C 3 rfl e_L_384 ?_
  refine lkk_iconst C ic_2 e_L_385 ?_
  refine lkk_iadd C e_L_386 ?_
  refine lkk_sld C e_L_387 (lk_in hi hL 2 (by omega) (by omega)) ?_
  refine lkk_callMi C hZ2 hcl (As := [.int (xs (nI i + (1 : Int32)).toNatClampNeg), .int (xs (nI i + (2 : Int32)).toNatClampNeg)]) (rest := [.int r]) e_L_388 mlL_41 ⟨_, _, _, _, rfl, rfl⟩ rfl (kk_fitL (Nat.le_of_ble_eq_true rfl) (by decide)) (Nat.le_of_ble_eq_true rfl) rfl (s_X11_swap Z2 (xs (nI i + (1 : Int32)).toNatClampNeg) (xs (nI i + (2 : Int32)).toNatClampNeg) σ2 _ h) (fun r' σ2' h => ?_)
  refine lkk_icmp_eq C e_L_391 (fun _ => ?_) (fun c1 => absurd h.1 c1)
  exact kend σ1' σ2' h.2
set_option maxRecDepth 4000 in
theorem lc_grow {Rel : kk_St → kk_St → Prop} (hp : pr_grow Rel) {Z1 Z2 : kk_Z} {p : Program} {l : Launch} {e : Env} {s : State} {m : MethodId} {below : List Frame} {meth : Method} {c : Code} {b L cells slots : Nat} {xs : Nat → Int32} (C : lk_C Z1 Z2 p s m meth c b L xs) (hZ1 : Z1.1 = l) (hZ2 : Z2.1 = l) (hcl : cells ≤ 600000 ∧ slots ≤ 7302250) (hL : L ≤ 2560) {i : Nat} (hi : i + 5 ≤ L) (σ1 σ2 : kk_St) (hR : Rel σ1 σ2) (kend : ∀ σ1 σ2, Rel σ1 σ2 → LK Z1 Z2 p l e s m below meth c b cells slots 1239 [(0, .ref b), (1, .ref (Z1.2.1 0)), (2, .ref (Z2.2.1 0)), (3, .int (nI i))] [] σ1 σ2) : LK Z1 Z2 p l e s m below meth c b cells slots 396 [(0, .ref b), (1, .ref (Z1.2.1 0)), (2, .ref (Z2.2.1 0)), (3, .int (nI i))] [] σ1 σ2 := by
  have h := hp σ1 σ2 hR (xs (nI i + (1 : Int32)).toNatClampNeg)
  refine lkk_aload_n C 1 rfl e_L_396 ?_
  refine lkk_aload_n C 0 rfl e_L_397 ?_
  refine lkk_iload_n C 3 rfl e_L_398 ?_
  refine lkk_iconst C ic_1 e_L_399 ?_
  refine lkk_iadd C e_L_400 ?_
  refine lkk_sld C e_L_401 (lk_in hi hL 1 (by omega) (by omega)) ?_
  refine lkk_callCi C hZ1 hcl (As := [.int (xs (nI i + (1 : Int32)).toNatClampNeg)]) (rest := []) e_L_402 mlL_42 ⟨_, _, _, _, rfl, rfl⟩ rfl (kk_fitL (Nat.le_of_ble_eq_true rfl) (by decide)) (Nat.le_of_ble_eq_true rfl) rfl (s_X10_grow Z1 (xs (nI i + (1 : Int32)).toNatClampNeg) σ1 _ h) (fun r σ1' h => ?_)
  refine lkk_aload_n C 2 rfl e_L_405 ?_
  refine lkk_aload_n C 0 rfl e_L_406 ?_
  refine lkk_iload_n C 3 rfl e_L_407 ?_
  refine lkk_iconst C ic_1 e_L_408 ?_
  refine lkk_iadd C e_L_409 ?_
  refine lkk_sld C e_L_410 (lk_in hi hL 1 (by omega) (by omega)) ?_
  refine lkk_callMi C hZ2 hcl (As := [.int (xs (nI i + (1 : Int32)).toNatClampNeg)]) (rest := [.int r]) e_L_411 mlL_45 ⟨_, _, _, _, rfl, rfl⟩ rfl (kk_fitL (Nat.le_of_ble_eq_true rfl) (by decide)) (Nat.le_of_ble_eq_true rfl) rfl (s_X11_grow Z2 (xs (nI i + (1 : Int32)).toNatClampNeg) σ2 _ h) (fun r' σ2' h => ?_)
  refine lkk_icmp_eq C e_L_414 (fun _ => ?_) (fun c1 => absurd h.1 c1)
  exact kend σ1' σ2' h.2
set_option maxRecDepth 4000 in
theorem lc_growAll {Rel : kk_St → kk_St → Prop} (hp : pr_growAll Rel) {Z1 Z2 : kk_Z} {p : Program} {l : Launch} {e : Env} {s : State} {m : MethodId} {below : List Frame} {meth : Method} {c : Code} {b L cells slots : Nat} {xs : Nat → Int32} (C : lk_C Z1 Z2 p s m meth c b L xs) (hZ1 : Z1.1 = l) (hZ2 : Z2.1 = l) (hcl : cells ≤ 600000 ∧ slots ≤ 7302250) (hL : L ≤ 2560) {i : Nat} (hi : i + 5 ≤ L) (σ1 σ2 : kk_St) (hR : Rel σ1 σ2) (kend : ∀ σ1 σ2, Rel σ1 σ2 → LK Z1 Z2 p l e s m below meth c b cells slots 1239 [(0, .ref b), (1, .ref (Z1.2.1 0)), (2, .ref (Z2.2.1 0)), (3, .int (nI i))] [] σ1 σ2) : LK Z1 Z2 p l e s m below meth c b cells slots 419 [(0, .ref b), (1, .ref (Z1.2.1 0)), (2, .ref (Z2.2.1 0)), (3, .int (nI i))] [] σ1 σ2 := by
  have h := hp σ1 σ2 hR ()
  refine lkk_aload_n C 1 rfl e_L_419 ?_
  refine lkk_callCi C hZ1 hcl (As := []) (rest := []) e_L_420 mlL_46 ⟨_, _, _, _, rfl, rfl⟩ rfl (kk_fitL (Nat.le_of_ble_eq_true rfl) (by decide)) (Nat.le_of_ble_eq_true rfl) rfl (s_X10_growAll Z1 σ1 _ h) (fun r σ1' h => ?_)
  refine lkk_aload_n C 2 rfl e_L_423 ?_
  refine lkk_callMi C hZ2 hcl (As := []) (rest := [.int r]) e_L_424 mlL_50 ⟨_, _, _, _, rfl, rfl⟩ rfl (kk_fitL (Nat.le_of_ble_eq_true rfl) (by decide)) (Nat.le_of_ble_eq_true rfl) rfl (s_X11_growAll Z2 σ2 _ h) (fun r' σ2' h => ?_)
  refine lkk_icmp_eq C e_L_427 (fun _ => ?_) (fun c1 => absurd h.1 c1)
  exact kend σ1' σ2' h.2
set_option maxRecDepth 4000 in
theorem lc_pair {Rel : kk_St → kk_St → Prop} (hp : pr_pair Rel) {Z1 Z2 : kk_Z} {p : Program} {l : Launch} {e : Env} {s : State} {m : MethodId} {below : List Frame} {meth : Method} {c : Code} {b L cells slots : Nat} {xs : Nat → Int32} (C : lk_C Z1 Z2 p s m meth c b L xs) (hZ1 : Z1.1 = l) (hZ2 : Z2.1 = l) (hcl : cells ≤ 600000 ∧ slots ≤ 7302250) (hL : L ≤ 2560) {i : Nat} (hi : i + 5 ≤ L) (σ1 σ2 : kk_St) (hR : Rel σ1 σ2) (kend : ∀ σ1 σ2, Rel σ1 σ2 → LK Z1 Z2 p l e s m below meth c b cells slots 1239 [(0, .ref b), (1, .ref (Z1.2.1 0)), (2, .ref (Z2.2.1 0)), (3, .int (nI i))] [] σ1 σ2) : LK Z1 Z2 p l e s m below meth c b cells slots 432 [(0, .ref b), (1, .ref (Z1.2.1 0)), (2, .ref (Z2.2.1 0)), (3, .int (nI i))] [] σ1 σ2 := by
  have h := hp σ1 σ2 hR ()
  refine lkk_aload_n C 1 rfl e_L_432 ?_
  refine lkk_callCi C hZ1 hcl (As := []) (rest := []) e_L_433 mlL_51 ⟨_, _, _, _, rfl, rfl⟩ rfl (kk_fitL (Nat.le_of_ble_eq_true rfl) (by decide)) (Nat.le_of_ble_eq_true rfl) rfl (s_X10_pair Z1 σ1 _ h) (fun r σ1' h => ?_)
  refine lkk_aload_n C 2 rfl e_L_436 ?_
  refine lkk_callMi C hZ2 hcl (As := []) (rest := [.int r]) e_L_437 mlL_54 ⟨_, _, _, _, rfl, rfl⟩ rfl (kk_fitL (Nat.le_of_ble_eq_true rfl) (by decide)) (Nat.le_of_ble_eq_true rfl) rfl (s_X11_pair Z2 σ2 _ h) (fun r' σ2' h => ?_)
  refine lkk_icmp_eq C e_L_440 (fun _ => ?_) (fun c1 => absurd h.1 c1)
  exact kend σ1' σ2' h.2
set_option maxRecDepth 4000 in
theorem lc_even {Rel : kk_St → kk_St → Prop} (hp : pr_even Rel) {Z1 Z2 : kk_Z} {p : Program} {l : Launch} {e : Env} {s : State} {m : MethodId} {below : List Frame} {meth : Method} {c : Code} {b L cells slots : Nat} {xs : Nat → Int32} (C : lk_C Z1 Z2 p s m meth c b L xs) (hZ1 : Z1.1 = l) (hZ2 : Z2.1 = l) (hcl : cells ≤ 600000 ∧ slots ≤ 7302250) (hL : L ≤ 2560) {i : Nat} (hi : i + 5 ≤ L) (σ1 σ2 : kk_St) (hR : Rel σ1 σ2) (kend : ∀ σ1 σ2, Rel σ1 σ2 → LK Z1 Z2 p l e s m below meth c b cells slots 1239 [(0, .ref b), (1, .ref (Z1.2.1 0)), (2, .ref (Z2.2.1 0)), (3, .int (nI i))] [] σ1 σ2) : LK Z1 Z2 p l e s m below meth c b cells slots 445 [(0, .ref b), (1, .ref (Z1.2.1 0)), (2, .ref (Z2.2.1 0)), (3, .int (nI i))] [] σ1 σ2 := by
  have h := hp σ1 σ2 hR ()
  refine lkk_aload_n C 1 rfl e_L_445 ?_
  refine lkk_callCi C hZ1 hcl (As := []) (rest := []) e_L_446 mlL_55 ⟨_, _, _, _, rfl, rfl⟩ rfl (kk_fitL (Nat.le_of_ble_eq_true rfl) (by decide)) (Nat.le_of_ble_eq_true rfl) rfl (s_X10_even Z1 σ1 _ h) (fun r σ1' h => ?_)
  refine lkk_aload_n C 2 rfl e_L_449 ?_
  refine lkk_callMi C hZ2 hcl (As := []) (rest := [.int r]) e_L_450 mlL_58 ⟨_, _, _, _, rfl, rfl⟩ rfl (kk_fitL (Nat.le_of_ble_eq_true rfl) (by decide)) (Nat.le_of_ble_eq_true rfl) rfl (s_X11_even Z2 σ2 _ h) (fun r' σ2' h => ?_)
  refine lkk_icmp_eq C e_L_453 (fun _ => ?_) (fun c1 => absurd h.1 c1)
  exact kend σ1' σ2' h.2
set_option maxRecDepth 4000 in
theorem lc_take {Rel : kk_St → kk_St → Prop} (hp : pr_take Rel) {Z1 Z2 : kk_Z} {p : Program} {l : Launch} {e : Env} {s : State} {m : MethodId} {below : List Frame} {meth : Method} {c : Code} {b L cells slots : Nat} {xs : Nat → Int32} (C : lk_C Z1 Z2 p s m meth c b L xs) (hZ1 : Z1.1 = l) (hZ2 : Z2.1 = l) (hcl : cells ≤ 600000 ∧ slots ≤ 7302250) (hL : L ≤ 2560) {i : Nat} (hi : i + 5 ≤ L) (σ1 σ2 : kk_St) (hR : Rel σ1 σ2) (kend : ∀ σ1 σ2, Rel σ1 σ2 → LK Z1 Z2 p l e s m below meth c b cells slots 1239 [(0, .ref b), (1, .ref (Z1.2.1 0)), (2, .ref (Z2.2.1 0)), (3, .int (nI i))] [] σ1 σ2) : LK Z1 Z2 p l e s m below meth c b cells slots 458 [(0, .ref b), (1, .ref (Z1.2.1 0)), (2, .ref (Z2.2.1 0)), (3, .int (nI i))] [] σ1 σ2 := by
  have h := hp σ1 σ2 hR (xs (nI i + (1 : Int32)).toNatClampNeg)
  refine lkk_aload_n C 1 rfl e_L_458 ?_
  refine lkk_aload_n C 0 rfl e_L_459 ?_
  refine lkk_iload_n C 3 rfl e_L_460 ?_
  refine lkk_iconst C ic_1 e_L_461 ?_
  refine lkk_iadd C e_L_462 ?_
  refine lkk_sld C e_L_463 (lk_in hi hL 1 (by omega) (by omega)) ?_
  refine lkk_callCi C hZ1 hcl (As := [.int (xs (nI i + (1 : Int32)).toNatClampNeg)]) (rest := []) e_L_464 mlL_59 ⟨_, _, _, _, rfl, rfl⟩ rfl (kk_fitL (Nat.le_of_ble_eq_true rfl) (by decide)) (Nat.le_of_ble_eq_true rfl) rfl (s_X10_take Z1 (xs (nI i + (1 : Int32)).toNatClampNeg) σ1 _ h) (fun r σ1' h => ?_)
  refine lkk_aload_n C 2 rfl e_L_467 ?_
  refine lkk_aload_n C 0 rfl e_L_468 ?_
  refine lkk_iload_n C 3 rfl e_L_469 ?_
  refine lkk_iconst C ic_1 e_L_470 ?_
  refine lkk_iadd C e_L_471 ?_
  refine lkk_sld C e_L_472 (lk_in hi hL 1 (by omega) (by omega)) ?_
  refine lkk_callMi C hZ2 hcl (As := [.int (xs (nI i + (1 : Int32)).toNatClampNeg)]) (rest := [.int r]) e_L_473 mlL_62 ⟨_, _, _, _, rfl, rfl⟩ rfl (kk_fitL (Nat.le_of_ble_eq_true rfl) (by decide)) (Nat.le_of_ble_eq_true rfl) rfl (s_X11_take Z2 (xs (nI i + (1 : Int32)).toNatClampNeg) σ2 _ h) (fun r' σ2' h => ?_)
  refine lkk_icmp_eq C e_L_476 (fun _ => ?_) (fun c1 => absurd h.1 c1)
  exact kend σ1' σ2' h.2
set_option maxRecDepth 4000 in
theorem lc_keep {Rel : kk_St → kk_St → Prop} (hp : pr_keep Rel) {Z1 Z2 : kk_Z} {p : Program} {l : Launch} {e : Env} {s : State} {m : MethodId} {below : List Frame} {meth : Method} {c : Code} {b L cells slots : Nat} {xs : Nat → Int32} (C : lk_C Z1 Z2 p s m meth c b L xs) (hZ1 : Z1.1 = l) (hZ2 : Z2.1 = l) (hcl : cells ≤ 600000 ∧ slots ≤ 7302250) (hL : L ≤ 2560) {i : Nat} (hi : i + 5 ≤ L) (σ1 σ2 : kk_St) (hR : Rel σ1 σ2) (kend : ∀ σ1 σ2, Rel σ1 σ2 → LK Z1 Z2 p l e s m below meth c b cells slots 1239 [(0, .ref b), (1, .ref (Z1.2.1 0)), (2, .ref (Z2.2.1 0)), (3, .int (nI i))] [] σ1 σ2) : LK Z1 Z2 p l e s m below meth c b cells slots 481 [(0, .ref b), (1, .ref (Z1.2.1 0)), (2, .ref (Z2.2.1 0)), (3, .int (nI i))] [] σ1 σ2 := by
  have h := hp σ1 σ2 hR ()
  refine lkk_aload_n C 1 rfl e_L_481 ?_
  refine lkk_callCi C hZ1 hcl (As := []) (rest := []) e_L_482 mlL_63 ⟨_, _, _, _, rfl, rfl⟩ rfl (kk_fitL (Nat.le_of_ble_eq_true rfl) (by decide)) (Nat.le_of_ble_eq_true rfl) rfl (s_X10_keep Z1 σ1 _ h) (fun r σ1' h => ?_)
  refine lkk_aload_n C 2 rfl e_L_485 ?_
  refine lkk_callMi C hZ2 hcl (As := []) (rest := [.int r]) e_L_486 mlL_67 ⟨_, _, _, _, rfl, rfl⟩ rfl (kk_fitL (Nat.le_of_ble_eq_true rfl) (by decide)) (Nat.le_of_ble_eq_true rfl) rfl (s_X11_keep Z2 σ2 _ h) (fun r' σ2' h => ?_)
  refine lkk_icmp_eq C e_L_489 (fun _ => ?_) (fun c1 => absurd h.1 c1)
  exact kend σ1' σ2' h.2
set_option maxRecDepth 4000 in
theorem lc_back {Rel : kk_St → kk_St → Prop} (hp : pr_back Rel) {Z1 Z2 : kk_Z} {p : Program} {l : Launch} {e : Env} {s : State} {m : MethodId} {below : List Frame} {meth : Method} {c : Code} {b L cells slots : Nat} {xs : Nat → Int32} (C : lk_C Z1 Z2 p s m meth c b L xs) (hZ1 : Z1.1 = l) (hZ2 : Z2.1 = l) (hcl : cells ≤ 600000 ∧ slots ≤ 7302250) (hL : L ≤ 2560) {i : Nat} (hi : i + 5 ≤ L) (σ1 σ2 : kk_St) (hR : Rel σ1 σ2) (kend : ∀ σ1 σ2, Rel σ1 σ2 → LK Z1 Z2 p l e s m below meth c b cells slots 1239 [(0, .ref b), (1, .ref (Z1.2.1 0)), (2, .ref (Z2.2.1 0)), (3, .int (nI i))] [] σ1 σ2) : LK Z1 Z2 p l e s m below meth c b cells slots 494 [(0, .ref b), (1, .ref (Z1.2.1 0)), (2, .ref (Z2.2.1 0)), (3, .int (nI i))] [] σ1 σ2 := by
  have h := hp σ1 σ2 hR ()
  refine lkk_aload_n C 1 rfl e_L_494 ?_
  refine lkk_callCi C hZ1 hcl (As := []) (rest := []) e_L_495 mlL_68 ⟨_, _, _, _, rfl, rfl⟩ rfl (kk_fitL (Nat.le_of_ble_eq_true rfl) (by decide)) (Nat.le_of_ble_eq_true rfl) rfl (s_X10_back Z1 σ1 _ h) (fun r σ1' h => ?_)
  refine lkk_aload_n C 2 rfl e_L_498 ?_
  refine lkk_callMi C hZ2 hcl (As := []) (rest := [.int r]) e_L_499 mlL_71 ⟨_, _, _, _, rfl, rfl⟩ rfl (kk_fitL (Nat.le_of_ble_eq_true rfl) (by decide)) (Nat.le_of_ble_eq_true rfl) rfl (s_X11_back Z2 σ2 _ h) (fun r' σ2' h => ?_)
  refine lkk_icmp_eq C e_L_502 (fun _ => ?_) (fun c1 => absurd h.1 c1)
  exact kend σ1' σ2' h.2
set_option maxRecDepth 4000 in
theorem lc_grown {Rel : kk_St → kk_St → Prop} (hp : pr_grown Rel) {Z1 Z2 : kk_Z} {p : Program} {l : Launch} {e : Env} {s : State} {m : MethodId} {below : List Frame} {meth : Method} {c : Code} {b L cells slots : Nat} {xs : Nat → Int32} (C : lk_C Z1 Z2 p s m meth c b L xs) (hZ1 : Z1.1 = l) (hZ2 : Z2.1 = l) (hcl : cells ≤ 600000 ∧ slots ≤ 7302250) (hL : L ≤ 2560) {i : Nat} (hi : i + 5 ≤ L) (σ1 σ2 : kk_St) (hR : Rel σ1 σ2) (kend : ∀ σ1 σ2, Rel σ1 σ2 → LK Z1 Z2 p l e s m below meth c b cells slots 1239 [(0, .ref b), (1, .ref (Z1.2.1 0)), (2, .ref (Z2.2.1 0)), (3, .int (nI i))] [] σ1 σ2) : LK Z1 Z2 p l e s m below meth c b cells slots 507 [(0, .ref b), (1, .ref (Z1.2.1 0)), (2, .ref (Z2.2.1 0)), (3, .int (nI i))] [] σ1 σ2 := by
  have h := hp σ1 σ2 hR (xs (nI i + (1 : Int32)).toNatClampNeg)
  refine lkk_aload_n C 1 rfl e_L_507 ?_
  refine lkk_aload_n C 0 rfl e_L_508 ?_
  refine lkk_iload_n C 3 rfl e_L_509 ?_
  refine lkk_iconst C ic_1 e_L_510 ?_
  refine lkk_iadd C e_L_511 ?_
  refine lkk_sld C e_L_512 (lk_in hi hL 1 (by omega) (by omega)) ?_
  refine lkk_callCip C hZ1 hcl (As := [.int (xs (nI i + (1 : Int32)).toNatClampNeg)]) (rest := []) e_L_513 mlL_72 ⟨_, _, _, _, rfl, rfl⟩ rfl (kk_fitL (Nat.le_of_ble_eq_true rfl) (by decide)) (Nat.le_of_ble_eq_true rfl) rfl (s_X10_grown Z1 (xs (nI i + (1 : Int32)).toNatClampNeg) σ1 _ h) (fun r h => ?_)
  refine lkk_aload_n C 2 rfl e_L_516 ?_
  refine lkk_aload_n C 0 rfl e_L_517 ?_
  refine lkk_iload_n C 3 rfl e_L_518 ?_
  refine lkk_iconst C ic_1 e_L_519 ?_
  refine lkk_iadd C e_L_520 ?_
  refine lkk_sld C e_L_521 (lk_in hi hL 1 (by omega) (by omega)) ?_
  refine lkk_callMip C hZ2 hcl (As := [.int (xs (nI i + (1 : Int32)).toNatClampNeg)]) (rest := [.int r]) e_L_522 mlL_75 ⟨_, _, _, _, rfl, rfl⟩ rfl (kk_fitL (Nat.le_of_ble_eq_true rfl) (by decide)) (Nat.le_of_ble_eq_true rfl) rfl (s_X11_grown Z2 (xs (nI i + (1 : Int32)).toNatClampNeg) σ2 _ h) (fun r' h => ?_)
  refine lkk_icmp_eq C e_L_525 (fun _ => ?_) (fun c1 => absurd h.1 c1)
  exact kend σ1 σ2 h.2
set_option maxRecDepth 4000 in
theorem lc_of {Rel : kk_St → kk_St → Prop} (hp : pr_of Rel) {Z1 Z2 : kk_Z} {p : Program} {l : Launch} {e : Env} {s : State} {m : MethodId} {below : List Frame} {meth : Method} {c : Code} {b L cells slots : Nat} {xs : Nat → Int32} (C : lk_C Z1 Z2 p s m meth c b L xs) (hZ1 : Z1.1 = l) (hZ2 : Z2.1 = l) (hcl : cells ≤ 600000 ∧ slots ≤ 7302250) (hL : L ≤ 2560) {i : Nat} (hi : i + 5 ≤ L) (σ1 σ2 : kk_St) (hR : Rel σ1 σ2) (kend : ∀ σ1 σ2, Rel σ1 σ2 → LK Z1 Z2 p l e s m below meth c b cells slots 1239 [(0, .ref b), (1, .ref (Z1.2.1 0)), (2, .ref (Z2.2.1 0)), (3, .int (nI i))] [] σ1 σ2) : LK Z1 Z2 p l e s m below meth c b cells slots 530 [(0, .ref b), (1, .ref (Z1.2.1 0)), (2, .ref (Z2.2.1 0)), (3, .int (nI i))] [] σ1 σ2 := by
  have h := hp σ1 σ2 hR (xs (nI i + (1 : Int32)).toNatClampNeg) (xs (nI i + (2 : Int32)).toNatClampNeg)
  refine lkk_aload_n C 1 rfl e_L_530 ?_
  refine lkk_aload_n C 0 rfl e_L_531 ?_
  refine lkk_iload_n C 3 rfl e_L_532 ?_
  refine lkk_iconst C ic_1 e_L_533 ?_
  refine lkk_iadd C e_L_534 ?_
  refine lkk_sld C e_L_535 (lk_in hi hL 1 (by omega) (by omega)) ?_
  refine lkk_aload_n C 0 rfl e_L_536 ?_
  refine lkk_iload_n C 3 rfl e_L_537 ?_
  refine lkk_iconst C ic_2 e_L_538 ?_
  refine lkk_iadd C e_L_539 ?_
  refine lkk_sld C e_L_540 (lk_in hi hL 2 (by omega) (by omega)) ?_
  refine lkk_callCip C hZ1 hcl (As := [.int (xs (nI i + (1 : Int32)).toNatClampNeg), .int (xs (nI i + (2 : Int32)).toNatClampNeg)]) (rest := []) e_L_541 mlL_76 ⟨_, _, _, _, rfl, rfl⟩ rfl (kk_fitL (Nat.le_of_ble_eq_true rfl) (by decide)) (Nat.le_of_ble_eq_true rfl) rfl (s_X10_of Z1 (xs (nI i + (1 : Int32)).toNatClampNeg) (xs (nI i + (2 : Int32)).toNatClampNeg) σ1 _ h) (fun r h => ?_)
  refine lkk_aload_n C 2 rfl e_L_544 ?_
  refine lkk_aload_n C 0 rfl e_L_545 ?_
  refine lkk_iload_n C 3 rfl e_L_546 ?_
  refine lkk_iconst C ic_1 e_L_547 ?_
  refine lkk_iadd C e_L_548 ?_
  refine lkk_sld C e_L_549 (lk_in hi hL 1 (by omega) (by omega)) ?_
  refine lkk_aload_n C 0 rfl e_L_550 ?_
  refine lkk_iload_n C 3 rfl e_L_551 ?_
  refine lkk_iconst C ic_2 e_L_552 ?_
  refine lkk_iadd C e_L_553 ?_
  refine lkk_sld C e_L_554 (lk_in hi hL 2 (by omega) (by omega)) ?_
  refine lkk_callMip C hZ2 hcl (As := [.int (xs (nI i + (1 : Int32)).toNatClampNeg), .int (xs (nI i + (2 : Int32)).toNatClampNeg)]) (rest := [.int r]) e_L_555 mlL_79 ⟨_, _, _, _, rfl, rfl⟩ rfl (kk_fitL (Nat.le_of_ble_eq_true rfl) (by decide)) (Nat.le_of_ble_eq_true rfl) rfl (s_X11_of Z2 (xs (nI i + (1 : Int32)).toNatClampNeg) (xs (nI i + (2 : Int32)).toNatClampNeg) σ2 _ h) (fun r' h => ?_)
  refine lkk_icmp_eq C e_L_558 (fun _ => ?_) (fun c1 => absurd h.1 c1)
  exact kend σ1 σ2 h.2
set_option maxRecDepth 4000 in
theorem lc_clash {Rel : kk_St → kk_St → Prop} (hp : pr_clash Rel) {Z1 Z2 : kk_Z} {p : Program} {l : Launch} {e : Env} {s : State} {m : MethodId} {below : List Frame} {meth : Method} {c : Code} {b L cells slots : Nat} {xs : Nat → Int32} (C : lk_C Z1 Z2 p s m meth c b L xs) (hZ1 : Z1.1 = l) (hZ2 : Z2.1 = l) (hcl : cells ≤ 600000 ∧ slots ≤ 7302250) (hL : L ≤ 2560) {i : Nat} (hi : i + 5 ≤ L) (σ1 σ2 : kk_St) (hR : Rel σ1 σ2) (kend : ∀ σ1 σ2, Rel σ1 σ2 → LK Z1 Z2 p l e s m below meth c b cells slots 1239 [(0, .ref b), (1, .ref (Z1.2.1 0)), (2, .ref (Z2.2.1 0)), (3, .int (nI i))] [] σ1 σ2) : LK Z1 Z2 p l e s m below meth c b cells slots 563 [(0, .ref b), (1, .ref (Z1.2.1 0)), (2, .ref (Z2.2.1 0)), (3, .int (nI i))] [] σ1 σ2 := by
  have h := hp σ1 σ2 hR (xs (nI i + (1 : Int32)).toNatClampNeg) (xs (nI i + (2 : Int32)).toNatClampNeg)
  refine lkk_aload_n C 1 rfl e_L_563 ?_
  refine lkk_aload_n C 0 rfl e_L_564 ?_
  refine lkk_iload_n C 3 rfl e_L_565 ?_
  refine lkk_iconst C ic_1 e_L_566 ?_
  refine lkk_iadd C e_L_567 ?_
  refine lkk_sld C e_L_568 (lk_in hi hL 1 (by omega) (by omega)) ?_
  refine lkk_aload_n C 0 rfl e_L_569 ?_
  refine lkk_iload_n C 3 rfl e_L_570 ?_
  refine lkk_iconst C ic_2 e_L_571 ?_
  refine lkk_iadd C e_L_572 ?_
  refine lkk_sld C e_L_573 (lk_in hi hL 2 (by omega) (by omega)) ?_
  refine lkk_callCip C hZ1 hcl (As := [.int (xs (nI i + (1 : Int32)).toNatClampNeg), .int (xs (nI i + (2 : Int32)).toNatClampNeg)]) (rest := []) e_L_574 mlL_80 ⟨_, _, _, _, rfl, rfl⟩ rfl (kk_fitL (Nat.le_of_ble_eq_true rfl) (by decide)) (Nat.le_of_ble_eq_true rfl) rfl (s_X10_clash Z1 (xs (nI i + (1 : Int32)).toNatClampNeg) (xs (nI i + (2 : Int32)).toNatClampNeg) σ1 _ h) (fun r h => ?_)
  refine lkk_aload_n C 2 rfl e_L_577 ?_
  refine lkk_aload_n C 0 rfl e_L_578 ?_
  refine lkk_iload_n C 3 rfl e_L_579 ?_
  refine lkk_iconst C ic_1 e_L_580 ?_
  refine lkk_iadd C e_L_581 ?_
  refine lkk_sld C e_L_582 (lk_in hi hL 1 (by omega) (by omega)) ?_
  refine lkk_aload_n C 0 rfl e_L_583 ?_
  refine lkk_iload_n C 3 rfl e_L_584 ?_
  refine lkk_iconst C ic_2 e_L_585 ?_
  refine lkk_iadd C e_L_586 ?_
  refine lkk_sld C e_L_587 (lk_in hi hL 2 (by omega) (by omega)) ?_
  refine lkk_callMip C hZ2 hcl (As := [.int (xs (nI i + (1 : Int32)).toNatClampNeg), .int (xs (nI i + (2 : Int32)).toNatClampNeg)]) (rest := [.int r]) e_L_588 mlL_83 ⟨_, _, _, _, rfl, rfl⟩ rfl (kk_fitL (Nat.le_of_ble_eq_true rfl) (by decide)) (Nat.le_of_ble_eq_true rfl) rfl (s_X11_clash Z2 (xs (nI i + (1 : Int32)).toNatClampNeg) (xs (nI i + (2 : Int32)).toNatClampNeg) σ2 _ h) (fun r' h => ?_)
  refine lkk_icmp_eq C e_L_591 (fun _ => ?_) (fun c1 => absurd h.1 c1)
  exact kend σ1 σ2 h.2
set_option maxRecDepth 4000 in
theorem lc_post {Rel : kk_St → kk_St → Prop} (hp : pr_post Rel) {Z1 Z2 : kk_Z} {p : Program} {l : Launch} {e : Env} {s : State} {m : MethodId} {below : List Frame} {meth : Method} {c : Code} {b L cells slots : Nat} {xs : Nat → Int32} (C : lk_C Z1 Z2 p s m meth c b L xs) (hZ1 : Z1.1 = l) (hZ2 : Z2.1 = l) (hcl : cells ≤ 600000 ∧ slots ≤ 7302250) (hL : L ≤ 2560) {i : Nat} (hi : i + 5 ≤ L) (σ1 σ2 : kk_St) (hR : Rel σ1 σ2) (kend : ∀ σ1 σ2, Rel σ1 σ2 → LK Z1 Z2 p l e s m below meth c b cells slots 1239 [(0, .ref b), (1, .ref (Z1.2.1 0)), (2, .ref (Z2.2.1 0)), (3, .int (nI i))] [] σ1 σ2) : LK Z1 Z2 p l e s m below meth c b cells slots 596 [(0, .ref b), (1, .ref (Z1.2.1 0)), (2, .ref (Z2.2.1 0)), (3, .int (nI i))] [] σ1 σ2 := by
  have h := hp σ1 σ2 hR (xs (nI i + (1 : Int32)).toNatClampNeg) (xs (nI i + (2 : Int32)).toNatClampNeg)
  refine lkk_aload_n C 1 rfl e_L_596 ?_
  refine lkk_aload_n C 0 rfl e_L_597 ?_
  refine lkk_iload_n C 3 rfl e_L_598 ?_
  refine lkk_iconst C ic_1 e_L_599 ?_
  refine lkk_iadd C e_L_600 ?_
  refine lkk_sld C e_L_601 (lk_in hi hL 1 (by omega) (by omega)) ?_
  refine lkk_aload_n C 0 rfl e_L_602 ?_
  refine lkk_iload_n C 3 rfl e_L_603 ?_
  refine lkk_iconst C ic_2 e_L_604 ?_
  refine lkk_iadd C e_L_605 ?_
  refine lkk_sld C e_L_606 (lk_in hi hL 2 (by omega) (by omega)) ?_
  refine lkk_callCip C hZ1 hcl (As := [.int (xs (nI i + (1 : Int32)).toNatClampNeg), .int (xs (nI i + (2 : Int32)).toNatClampNeg)]) (rest := []) e_L_607 mlL_84 ⟨_, _, _, _, rfl, rfl⟩ rfl (kk_fitL (Nat.le_of_ble_eq_true rfl) (by decide)) (Nat.le_of_ble_eq_true rfl) rfl (s_X10_post Z1 (xs (nI i + (1 : Int32)).toNatClampNeg) (xs (nI i + (2 : Int32)).toNatClampNeg) σ1 _ h) (fun r h => ?_)
  refine lkk_aload_n C 2 rfl e_L_610 ?_
  refine lkk_aload_n C 0 rfl e_L_611 ?_
  refine lkk_iload_n C 3 rfl e_L_612 ?_
  refine lkk_iconst C ic_1 e_L_613 ?_
  refine lkk_iadd C e_L_614 ?_
  refine lkk_sld C e_L_615 (lk_in hi hL 1 (by omega) (by omega)) ?_
  refine lkk_aload_n C 0 rfl e_L_616 ?_
  refine lkk_iload_n C 3 rfl e_L_617 ?_
  refine lkk_iconst C ic_2 e_L_618 ?_
  refine lkk_iadd C e_L_619 ?_
  refine lkk_sld C e_L_620 (lk_in hi hL 2 (by omega) (by omega)) ?_
  refine lkk_callMip C hZ2 hcl (As := [.int (xs (nI i + (1 : Int32)).toNatClampNeg), .int (xs (nI i + (2 : Int32)).toNatClampNeg)]) (rest := [.int r]) e_L_621 mlL_87 ⟨_, _, _, _, rfl, rfl⟩ rfl (kk_fitL (Nat.le_of_ble_eq_true rfl) (by decide)) (Nat.le_of_ble_eq_true rfl) rfl (s_X11_post Z2 (xs (nI i + (1 : Int32)).toNatClampNeg) (xs (nI i + (2 : Int32)).toNatClampNeg) σ2 _ h) (fun r' h => ?_)
  refine lkk_icmp_eq C e_L_624 (fun _ => ?_) (fun c1 => absurd h.1 c1)
  exact kend σ1 σ2 h.2
set_option maxRecDepth 4000 in
theorem lc_colour {Rel : kk_St → kk_St → Prop} (hp : pr_colour Rel) {Z1 Z2 : kk_Z} {p : Program} {l : Launch} {e : Env} {s : State} {m : MethodId} {below : List Frame} {meth : Method} {c : Code} {b L cells slots : Nat} {xs : Nat → Int32} (C : lk_C Z1 Z2 p s m meth c b L xs) (hZ1 : Z1.1 = l) (hZ2 : Z2.1 = l) (hcl : cells ≤ 600000 ∧ slots ≤ 7302250) (hL : L ≤ 2560) {i : Nat} (hi : i + 5 ≤ L) (σ1 σ2 : kk_St) (hR : Rel σ1 σ2) (kend : ∀ σ1 σ2, Rel σ1 σ2 → LK Z1 Z2 p l e s m below meth c b cells slots 1239 [(0, .ref b), (1, .ref (Z1.2.1 0)), (2, .ref (Z2.2.1 0)), (3, .int (nI i))] [] σ1 σ2) : LK Z1 Z2 p l e s m below meth c b cells slots 629 [(0, .ref b), (1, .ref (Z1.2.1 0)), (2, .ref (Z2.2.1 0)), (3, .int (nI i))] [] σ1 σ2 := by
  have h := hp σ1 σ2 hR (xs (nI i + (1 : Int32)).toNatClampNeg) (xs (nI i + (2 : Int32)).toNatClampNeg)
  refine lkk_aload_n C 1 rfl e_L_629 ?_
  refine lkk_aload_n C 0 rfl e_L_630 ?_
  refine lkk_iload_n C 3 rfl e_L_631 ?_
  refine lkk_iconst C ic_1 e_L_632 ?_
  refine lkk_iadd C e_L_633 ?_
  refine lkk_sld C e_L_634 (lk_in hi hL 1 (by omega) (by omega)) ?_
  refine lkk_aload_n C 0 rfl e_L_635 ?_
  refine lkk_iload_n C 3 rfl e_L_636 ?_
  refine lkk_iconst C ic_2 e_L_637 ?_
  refine lkk_iadd C e_L_638 ?_
  refine lkk_sld C e_L_639 (lk_in hi hL 2 (by omega) (by omega)) ?_
  refine lkk_callCip C hZ1 hcl (As := [.int (xs (nI i + (1 : Int32)).toNatClampNeg), .int (xs (nI i + (2 : Int32)).toNatClampNeg)]) (rest := []) e_L_640 mlL_88 ⟨_, _, _, _, rfl, rfl⟩ rfl (kk_fitL (Nat.le_of_ble_eq_true rfl) (by decide)) (Nat.le_of_ble_eq_true rfl) rfl (s_X10_colour Z1 (xs (nI i + (1 : Int32)).toNatClampNeg) (xs (nI i + (2 : Int32)).toNatClampNeg) σ1 _ h) (fun r h => ?_)
  refine lkk_aload_n C 2 rfl e_L_643 ?_
  refine lkk_aload_n C 0 rfl e_L_644 ?_
  refine lkk_iload_n C 3 rfl e_L_645 ?_
  refine lkk_iconst C ic_1 e_L_646 ?_
  refine lkk_iadd C e_L_647 ?_
  refine lkk_sld C e_L_648 (lk_in hi hL 1 (by omega) (by omega)) ?_
  refine lkk_aload_n C 0 rfl e_L_649 ?_
  refine lkk_iload_n C 3 rfl e_L_650 ?_
  refine lkk_iconst C ic_2 e_L_651 ?_
  refine lkk_iadd C e_L_652 ?_
  refine lkk_sld C e_L_653 (lk_in hi hL 2 (by omega) (by omega)) ?_
  refine lkk_callMip C hZ2 hcl (As := [.int (xs (nI i + (1 : Int32)).toNatClampNeg), .int (xs (nI i + (2 : Int32)).toNatClampNeg)]) (rest := [.int r]) e_L_654 mlL_91 ⟨_, _, _, _, rfl, rfl⟩ rfl (kk_fitL (Nat.le_of_ble_eq_true rfl) (by decide)) (Nat.le_of_ble_eq_true rfl) rfl (s_X11_colour Z2 (xs (nI i + (1 : Int32)).toNatClampNeg) (xs (nI i + (2 : Int32)).toNatClampNeg) σ2 _ h) (fun r' h => ?_)
  refine lkk_icmp_eq C e_L_657 (fun _ => ?_) (fun c1 => absurd h.1 c1)
  exact kend σ1 σ2 h.2
set_option maxRecDepth 4000 in
theorem lc_chain {Rel : kk_St → kk_St → Prop} (hp : pr_chain Rel) {Z1 Z2 : kk_Z} {p : Program} {l : Launch} {e : Env} {s : State} {m : MethodId} {below : List Frame} {meth : Method} {c : Code} {b L cells slots : Nat} {xs : Nat → Int32} (C : lk_C Z1 Z2 p s m meth c b L xs) (hZ1 : Z1.1 = l) (hZ2 : Z2.1 = l) (hcl : cells ≤ 600000 ∧ slots ≤ 7302250) (hL : L ≤ 2560) {i : Nat} (hi : i + 5 ≤ L) (σ1 σ2 : kk_St) (hR : Rel σ1 σ2) (kend : ∀ σ1 σ2, Rel σ1 σ2 → LK Z1 Z2 p l e s m below meth c b cells slots 1239 [(0, .ref b), (1, .ref (Z1.2.1 0)), (2, .ref (Z2.2.1 0)), (3, .int (nI i))] [] σ1 σ2) : LK Z1 Z2 p l e s m below meth c b cells slots 662 [(0, .ref b), (1, .ref (Z1.2.1 0)), (2, .ref (Z2.2.1 0)), (3, .int (nI i))] [] σ1 σ2 := by
  have h := hp σ1 σ2 hR (xs (nI i + (1 : Int32)).toNatClampNeg) (xs (nI i + (2 : Int32)).toNatClampNeg) (xs (nI i + (3 : Int32)).toNatClampNeg) (xs (nI i + (4 : Int32)).toNatClampNeg)
  refine lkk_aload_n C 1 rfl e_L_662 ?_
  refine lkk_aload_n C 0 rfl e_L_663 ?_
  refine lkk_iload_n C 3 rfl e_L_664 ?_
  refine lkk_iconst C ic_1 e_L_665 ?_
  refine lkk_iadd C e_L_666 ?_
  refine lkk_sld C e_L_667 (lk_in hi hL 1 (by omega) (by omega)) ?_
  refine lkk_aload_n C 0 rfl e_L_668 ?_
  refine lkk_iload_n C 3 rfl e_L_669 ?_
  refine lkk_iconst C ic_2 e_L_670 ?_
  refine lkk_iadd C e_L_671 ?_
  refine lkk_sld C e_L_672 (lk_in hi hL 2 (by omega) (by omega)) ?_
  refine lkk_aload_n C 0 rfl e_L_673 ?_
  refine lkk_iload_n C 3 rfl e_L_674 ?_
  refine lkk_iconst C ic_3 e_L_675 ?_
  refine lkk_iadd C e_L_676 ?_
  refine lkk_sld C e_L_677 (lk_in hi hL 3 (by omega) (by omega)) ?_
  refine lkk_aload_n C 0 rfl e_L_678 ?_
  refine lkk_iload_n C 3 rfl e_L_679 ?_
  refine lkk_iconst C ic_4 e_L_680 ?_
  refine lkk_iadd C e_L_681 ?_
  refine lkk_sld C e_L_682 (lk_in hi hL 4 (by omega) (by omega)) ?_
  refine lkk_callCip C hZ1 hcl (As := [.int (xs (nI i + (1 : Int32)).toNatClampNeg), .int (xs (nI i + (2 : Int32)).toNatClampNeg), .int (xs (nI i + (3 : Int32)).toNatClampNeg), .int (xs (nI i + (4 : Int32)).toNatClampNeg)]) (rest := []) e_L_683 mlL_92 ⟨_, _, _, _, rfl, rfl⟩ rfl (kk_fitL (Nat.le_of_ble_eq_true rfl) (by decide)) (Nat.le_of_ble_eq_true rfl) rfl (s_X10_chain Z1 (xs (nI i + (1 : Int32)).toNatClampNeg) (xs (nI i + (2 : Int32)).toNatClampNeg) (xs (nI i + (3 : Int32)).toNatClampNeg) (xs (nI i + (4 : Int32)).toNatClampNeg) σ1 _ h) (fun r h => ?_)
  refine lkk_aload_n C 2 rfl e_L_686 ?_
  refine lkk_aload_n C 0 rfl e_L_687 ?_
  refine lkk_iload_n C 3 rfl e_L_688 ?_
  refine lkk_iconst C ic_1 e_L_689 ?_
  refine lkk_iadd C e_L_690 ?_
  refine lkk_sld C e_L_691 (lk_in hi hL 1 (by omega) (by omega)) ?_
  refine lkk_aload_n C 0 rfl e_L_692 ?_
  refine lkk_iload_n C 3 rfl e_L_693 ?_
  refine lkk_iconst C ic_2 e_L_694 ?_
  refine lkk_iadd C e_L_695 ?_
  refine lkk_sld C e_L_696 (lk_in hi hL 2 (by omega) (by omega)) ?_
  refine lkk_aload_n C 0 rfl e_L_697 ?_
  refine lkk_iload_n C 3 rfl e_L_698 ?_
  refine lkk_iconst C ic_3 e_L_699 ?_
  refine lkk_iadd C e_L_700 ?_
  refine lkk_sld C e_L_701 (lk_in hi hL 3 (by omega) (by omega)) ?_
  refine lkk_aload_n C 0 rfl e_L_702 ?_
  refine lkk_iload_n C 3 rfl e_L_703 ?_
  refine lkk_iconst C ic_4 e_L_704 ?_
  refine lkk_iadd C e_L_705 ?_
  refine lkk_sld C e_L_706 (lk_in hi hL 4 (by omega) (by omega)) ?_
  refine lkk_callMi C hZ2 hcl (As := [.int (xs (nI i + (1 : Int32)).toNatClampNeg), .int (xs (nI i + (2 : Int32)).toNatClampNeg), .int (xs (nI i + (3 : Int32)).toNatClampNeg), .int (xs (nI i + (4 : Int32)).toNatClampNeg)]) (rest := [.int r]) e_L_707 mlL_96 ⟨_, _, _, _, rfl, rfl⟩ rfl (kk_fitL (Nat.le_of_ble_eq_true rfl) (by decide)) (Nat.le_of_ble_eq_true rfl) rfl (s_X11_chain Z2 (xs (nI i + (1 : Int32)).toNatClampNeg) (xs (nI i + (2 : Int32)).toNatClampNeg) (xs (nI i + (3 : Int32)).toNatClampNeg) (xs (nI i + (4 : Int32)).toNatClampNeg) σ2 _ h) (fun r' σ2' h => ?_)
  refine lkk_icmp_eq C e_L_710 (fun _ => ?_) (fun c1 => absurd h.1 c1)
  exact kend σ1 σ2' h.2
set_option maxRecDepth 4000 in
theorem lc_idle {Rel : kk_St → kk_St → Prop} (hp : pr_idle Rel) {Z1 Z2 : kk_Z} {p : Program} {l : Launch} {e : Env} {s : State} {m : MethodId} {below : List Frame} {meth : Method} {c : Code} {b L cells slots : Nat} {xs : Nat → Int32} (C : lk_C Z1 Z2 p s m meth c b L xs) (hZ1 : Z1.1 = l) (hZ2 : Z2.1 = l) (hcl : cells ≤ 600000 ∧ slots ≤ 7302250) (hL : L ≤ 2560) {i : Nat} (hi : i + 5 ≤ L) (σ1 σ2 : kk_St) (hR : Rel σ1 σ2) (kend : ∀ σ1 σ2, Rel σ1 σ2 → LK Z1 Z2 p l e s m below meth c b cells slots 1239 [(0, .ref b), (1, .ref (Z1.2.1 0)), (2, .ref (Z2.2.1 0)), (3, .int (nI i))] [] σ1 σ2) : LK Z1 Z2 p l e s m below meth c b cells slots 715 [(0, .ref b), (1, .ref (Z1.2.1 0)), (2, .ref (Z2.2.1 0)), (3, .int (nI i))] [] σ1 σ2 := by
  have h := hp σ1 σ2 hR (xs (nI i + (1 : Int32)).toNatClampNeg)
  refine lkk_aload_n C 1 rfl e_L_715 ?_
  refine lkk_aload_n C 0 rfl e_L_716 ?_
  refine lkk_iload_n C 3 rfl e_L_717 ?_
  refine lkk_iconst C ic_1 e_L_718 ?_
  refine lkk_iadd C e_L_719 ?_
  refine lkk_sld C e_L_720 (lk_in hi hL 1 (by omega) (by omega)) ?_
  refine lkk_callCip C hZ1 hcl (As := [.int (xs (nI i + (1 : Int32)).toNatClampNeg)]) (rest := []) e_L_721 mlL_97 ⟨_, _, _, _, rfl, rfl⟩ rfl (kk_fitL (Nat.le_of_ble_eq_true rfl) (by decide)) (Nat.le_of_ble_eq_true rfl) rfl (s_X10_idle Z1 (xs (nI i + (1 : Int32)).toNatClampNeg) σ1 _ h) (fun r h => ?_)
  refine lkk_aload_n C 2 rfl e_L_724 ?_
  refine lkk_aload_n C 0 rfl e_L_725 ?_
  refine lkk_iload_n C 3 rfl e_L_726 ?_
  refine lkk_iconst C ic_1 e_L_727 ?_
  refine lkk_iadd C e_L_728 ?_
  refine lkk_sld C e_L_729 (lk_in hi hL 1 (by omega) (by omega)) ?_
  refine lkk_callMip C hZ2 hcl (As := [.int (xs (nI i + (1 : Int32)).toNatClampNeg)]) (rest := [.int r]) e_L_730 mlL_100 ⟨_, _, _, _, rfl, rfl⟩ rfl (kk_fitL (Nat.le_of_ble_eq_true rfl) (by decide)) (Nat.le_of_ble_eq_true rfl) rfl (s_X11_idle Z2 (xs (nI i + (1 : Int32)).toNatClampNeg) σ2 _ h) (fun r' h => ?_)
  refine lkk_icmp_eq C e_L_733 (fun _ => ?_) (fun c1 => absurd h.1 c1)
  exact kend σ1 σ2 h.2
set_option maxRecDepth 4000 in
theorem lc_calmer {Rel : kk_St → kk_St → Prop} (hp : pr_calmer Rel) {Z1 Z2 : kk_Z} {p : Program} {l : Launch} {e : Env} {s : State} {m : MethodId} {below : List Frame} {meth : Method} {c : Code} {b L cells slots : Nat} {xs : Nat → Int32} (C : lk_C Z1 Z2 p s m meth c b L xs) (hZ1 : Z1.1 = l) (hZ2 : Z2.1 = l) (hcl : cells ≤ 600000 ∧ slots ≤ 7302250) (hL : L ≤ 2560) {i : Nat} (hi : i + 5 ≤ L) (σ1 σ2 : kk_St) (hR : Rel σ1 σ2) (kend : ∀ σ1 σ2, Rel σ1 σ2 → LK Z1 Z2 p l e s m below meth c b cells slots 1239 [(0, .ref b), (1, .ref (Z1.2.1 0)), (2, .ref (Z2.2.1 0)), (3, .int (nI i))] [] σ1 σ2) : LK Z1 Z2 p l e s m below meth c b cells slots 738 [(0, .ref b), (1, .ref (Z1.2.1 0)), (2, .ref (Z2.2.1 0)), (3, .int (nI i))] [] σ1 σ2 := by
  have h := hp σ1 σ2 hR (xs (nI i + (1 : Int32)).toNatClampNeg)
  refine lkk_aload_n C 1 rfl e_L_738 ?_
  refine lkk_aload_n C 0 rfl e_L_739 ?_
  refine lkk_iload_n C 3 rfl e_L_740 ?_
  refine lkk_iconst C ic_1 e_L_741 ?_
  refine lkk_iadd C e_L_742 ?_
  refine lkk_sld C e_L_743 (lk_in hi hL 1 (by omega) (by omega)) ?_
  refine lkk_callCi C hZ1 hcl (As := [.int (xs (nI i + (1 : Int32)).toNatClampNeg)]) (rest := []) e_L_744 mlL_101 ⟨_, _, _, _, rfl, rfl⟩ rfl (kk_fitL (Nat.le_of_ble_eq_true rfl) (by decide)) (Nat.le_of_ble_eq_true rfl) rfl (s_X10_calmer Z1 (xs (nI i + (1 : Int32)).toNatClampNeg) σ1 _ h) (fun r σ1' h => ?_)
  refine lkk_aload_n C 2 rfl e_L_747 ?_
  refine lkk_aload_n C 0 rfl e_L_748 ?_
  refine lkk_iload_n C 3 rfl e_L_749 ?_
  refine lkk_iconst C ic_1 e_L_750 ?_
  refine lkk_iadd C e_L_751 ?_
  refine lkk_sld C e_L_752 (lk_in hi hL 1 (by omega) (by omega)) ?_
  refine lkk_callMi C hZ2 hcl (As := [.int (xs (nI i + (1 : Int32)).toNatClampNeg)]) (rest := [.int r]) e_L_753 mlL_104 ⟨_, _, _, _, rfl, rfl⟩ rfl (kk_fitL (Nat.le_of_ble_eq_true rfl) (by decide)) (Nat.le_of_ble_eq_true rfl) rfl (s_X11_calmer Z2 (xs (nI i + (1 : Int32)).toNatClampNeg) σ2 _ h) (fun r' σ2' h => ?_)
  refine lkk_icmp_eq C e_L_756 (fun _ => ?_) (fun c1 => absurd h.1 c1)
  exact kend σ1' σ2' h.2
set_option maxRecDepth 4000 in
theorem lc_fan {Rel : kk_St → kk_St → Prop} (hp : pr_fan Rel) {Z1 Z2 : kk_Z} {p : Program} {l : Launch} {e : Env} {s : State} {m : MethodId} {below : List Frame} {meth : Method} {c : Code} {b L cells slots : Nat} {xs : Nat → Int32} (C : lk_C Z1 Z2 p s m meth c b L xs) (hZ1 : Z1.1 = l) (hZ2 : Z2.1 = l) (hcl : cells ≤ 600000 ∧ slots ≤ 7302250) (hL : L ≤ 2560) {i : Nat} (hi : i + 5 ≤ L) (σ1 σ2 : kk_St) (hR : Rel σ1 σ2) (kend : ∀ σ1 σ2, Rel σ1 σ2 → LK Z1 Z2 p l e s m below meth c b cells slots 1239 [(0, .ref b), (1, .ref (Z1.2.1 0)), (2, .ref (Z2.2.1 0)), (3, .int (nI i))] [] σ1 σ2) : LK Z1 Z2 p l e s m below meth c b cells slots 761 [(0, .ref b), (1, .ref (Z1.2.1 0)), (2, .ref (Z2.2.1 0)), (3, .int (nI i))] [] σ1 σ2 := by
  have h := hp σ1 σ2 hR (xs (nI i + (1 : Int32)).toNatClampNeg) (xs (nI i + (2 : Int32)).toNatClampNeg) (xs (nI i + (3 : Int32)).toNatClampNeg)
  refine lkk_aload_n C 1 rfl e_L_761 ?_
  refine lkk_aload_n C 0 rfl e_L_762 ?_
  refine lkk_iload_n C 3 rfl e_L_763 ?_
  refine lkk_iconst C ic_1 e_L_764 ?_
  refine lkk_iadd C e_L_765 ?_
  refine lkk_sld C e_L_766 (lk_in hi hL 1 (by omega) (by omega)) ?_
  refine lkk_aload_n C 0 rfl e_L_767 ?_
  refine lkk_iload_n C 3 rfl e_L_768 ?_
  refine lkk_iconst C ic_2 e_L_769 ?_
  refine lkk_iadd C e_L_770 ?_
  refine lkk_sld C e_L_771 (lk_in hi hL 2 (by omega) (by omega)) ?_
  refine lkk_aload_n C 0 rfl e_L_772 ?_
  refine lkk_iload_n C 3 rfl e_L_773 ?_
  refine lkk_iconst C ic_3 e_L_774 ?_
  refine lkk_iadd C e_L_775 ?_
  refine lkk_sld C e_L_776 (lk_in hi hL 3 (by omega) (by omega)) ?_
  refine lkk_callCi C hZ1 hcl (As := [.int (xs (nI i + (1 : Int32)).toNatClampNeg), .int (xs (nI i + (2 : Int32)).toNatClampNeg), .int (xs (nI i + (3 : Int32)).toNatClampNeg)]) (rest := []) e_L_777 mlL_105 ⟨_, _, _, _, rfl, rfl⟩ rfl (kk_fitL (Nat.le_of_ble_eq_true rfl) (by decide)) (Nat.le_of_ble_eq_true rfl) rfl (s_X10_fan Z1 (xs (nI i + (1 : Int32)).toNatClampNeg) (xs (nI i + (2 : Int32)).toNatClampNeg) (xs (nI i + (3 : Int32)).toNatClampNeg) σ1 _ h) (fun r σ1' h => ?_)
  refine lkk_aload_n C 2 rfl e_L_780 ?_
  refine lkk_aload_n C 0 rfl e_L_781 ?_
  refine lkk_iload_n C 3 rfl e_L_782 ?_
  refine lkk_iconst C ic_1 e_L_783 ?_
  refine lkk_iadd C e_L_784 ?_
  refine lkk_sld C e_L_785 (lk_in hi hL 1 (by omega) (by omega)) ?_
  refine lkk_aload_n C 0 rfl e_L_786 ?_
  refine lkk_iload_n C 3 rfl e_L_787 ?_
  refine lkk_iconst C ic_2 e_L_788 ?_
  refine lkk_iadd C e_L_789 ?_
  refine lkk_sld C e_L_790 (lk_in hi hL 2 (by omega) (by omega)) ?_
  refine lkk_aload_n C 0 rfl e_L_791 ?_
  refine lkk_iload_n C 3 rfl e_L_792 ?_
  refine lkk_iconst C ic_3 e_L_793 ?_
  refine lkk_iadd C e_L_794 ?_
  refine lkk_sld C e_L_795 (lk_in hi hL 3 (by omega) (by omega)) ?_
  refine lkk_callMi C hZ2 hcl (As := [.int (xs (nI i + (1 : Int32)).toNatClampNeg), .int (xs (nI i + (2 : Int32)).toNatClampNeg), .int (xs (nI i + (3 : Int32)).toNatClampNeg)]) (rest := [.int r]) e_L_796 mlL_108 ⟨_, _, _, _, rfl, rfl⟩ rfl (kk_fitL (Nat.le_of_ble_eq_true rfl) (by decide)) (Nat.le_of_ble_eq_true rfl) rfl (s_X11_fan Z2 (xs (nI i + (1 : Int32)).toNatClampNeg) (xs (nI i + (2 : Int32)).toNatClampNeg) (xs (nI i + (3 : Int32)).toNatClampNeg) σ2 _ h) (fun r' σ2' h => ?_)
  refine lkk_icmp_eq C e_L_799 (fun _ => ?_) (fun c1 => absurd h.1 c1)
  exact kend σ1' σ2' h.2
set_option maxRecDepth 4000 in
theorem lc_index {Rel : kk_St → kk_St → Prop} (hp : pr_index Rel) {Z1 Z2 : kk_Z} {p : Program} {l : Launch} {e : Env} {s : State} {m : MethodId} {below : List Frame} {meth : Method} {c : Code} {b L cells slots : Nat} {xs : Nat → Int32} (C : lk_C Z1 Z2 p s m meth c b L xs) (hZ1 : Z1.1 = l) (hZ2 : Z2.1 = l) (hcl : cells ≤ 600000 ∧ slots ≤ 7302250) (hL : L ≤ 2560) {i : Nat} (hi : i + 5 ≤ L) (σ1 σ2 : kk_St) (hR : Rel σ1 σ2) (kend : ∀ σ1 σ2, Rel σ1 σ2 → LK Z1 Z2 p l e s m below meth c b cells slots 1239 [(0, .ref b), (1, .ref (Z1.2.1 0)), (2, .ref (Z2.2.1 0)), (3, .int (nI i))] [] σ1 σ2) : LK Z1 Z2 p l e s m below meth c b cells slots 804 [(0, .ref b), (1, .ref (Z1.2.1 0)), (2, .ref (Z2.2.1 0)), (3, .int (nI i))] [] σ1 σ2 := by
  have h := hp σ1 σ2 hR ()
  refine lkk_aload_n C 1 rfl e_L_804 ?_
  refine lkk_callCi C hZ1 hcl (As := []) (rest := []) e_L_805 mlL_109 ⟨_, _, _, _, rfl, rfl⟩ rfl (kk_fitL (Nat.le_of_ble_eq_true rfl) (by decide)) (Nat.le_of_ble_eq_true rfl) rfl (s_X10_index Z1 σ1 _ h) (fun r σ1' h => ?_)
  refine lkk_aload_n C 2 rfl e_L_808 ?_
  refine lkk_callMi C hZ2 hcl (As := []) (rest := [.int r]) e_L_809 mlL_112 ⟨_, _, _, _, rfl, rfl⟩ rfl (kk_fitL (Nat.le_of_ble_eq_true rfl) (by decide)) (Nat.le_of_ble_eq_true rfl) rfl (s_X11_index Z2 σ2 _ h) (fun r' σ2' h => ?_)
  refine lkk_icmp_eq C e_L_812 (fun _ => ?_) (fun c1 => absurd h.1 c1)
  exact kend σ1' σ2' h.2
set_option maxRecDepth 4000 in
theorem lc_first {Rel : kk_St → kk_St → Prop} (hp : pr_first Rel) {Z1 Z2 : kk_Z} {p : Program} {l : Launch} {e : Env} {s : State} {m : MethodId} {below : List Frame} {meth : Method} {c : Code} {b L cells slots : Nat} {xs : Nat → Int32} (C : lk_C Z1 Z2 p s m meth c b L xs) (hZ1 : Z1.1 = l) (hZ2 : Z2.1 = l) (hcl : cells ≤ 600000 ∧ slots ≤ 7302250) (hL : L ≤ 2560) {i : Nat} (hi : i + 5 ≤ L) (σ1 σ2 : kk_St) (hR : Rel σ1 σ2) (kend : ∀ σ1 σ2, Rel σ1 σ2 → LK Z1 Z2 p l e s m below meth c b cells slots 1239 [(0, .ref b), (1, .ref (Z1.2.1 0)), (2, .ref (Z2.2.1 0)), (3, .int (nI i))] [] σ1 σ2) : LK Z1 Z2 p l e s m below meth c b cells slots 817 [(0, .ref b), (1, .ref (Z1.2.1 0)), (2, .ref (Z2.2.1 0)), (3, .int (nI i))] [] σ1 σ2 := by
  have h := hp σ1 σ2 hR (xs (nI i + (1 : Int32)).toNatClampNeg) (xs (nI i + (2 : Int32)).toNatClampNeg)
  refine lkk_aload_n C 1 rfl e_L_817 ?_
  refine lkk_aload_n C 0 rfl e_L_818 ?_
  refine lkk_iload_n C 3 rfl e_L_819 ?_
  refine lkk_iconst C ic_1 e_L_820 ?_
  refine lkk_iadd C e_L_821 ?_
  refine lkk_sld C e_L_822 (lk_in hi hL 1 (by omega) (by omega)) ?_
  refine lkk_aload_n C 0 rfl e_L_823 ?_
  refine lkk_iload_n C 3 rfl e_L_824 ?_
  refine lkk_iconst C ic_2 e_L_825 ?_
  refine lkk_iadd C e_L_826 ?_
  refine lkk_sld C e_L_827 (lk_in hi hL 2 (by omega) (by omega)) ?_
  refine lkk_callCi C hZ1 hcl (As := [.int (xs (nI i + (1 : Int32)).toNatClampNeg), .int (xs (nI i + (2 : Int32)).toNatClampNeg)]) (rest := []) e_L_828 mlL_113 ⟨_, _, _, _, rfl, rfl⟩ rfl (kk_fitL (Nat.le_of_ble_eq_true rfl) (by decide)) (Nat.le_of_ble_eq_true rfl) rfl (s_X10_first Z1 (xs (nI i + (1 : Int32)).toNatClampNeg) (xs (nI i + (2 : Int32)).toNatClampNeg) σ1 _ h) (fun r σ1' h => ?_)
  refine lkk_aload_n C 2 rfl e_L_831 ?_
  refine lkk_aload_n C 0 rfl e_L_832 ?_
  refine lkk_iload_n C 3 rfl e_L_833 ?_
  refine lkk_iconst C ic_1 e_L_834 ?_
  refine lkk_iadd C e_L_835 ?_
  refine lkk_sld C e_L_836 (lk_in hi hL 1 (by omega) (by omega)) ?_
  refine lkk_aload_n C 0 rfl e_L_837 ?_
  refine lkk_iload_n C 3 rfl e_L_838 ?_
  refine lkk_iconst C ic_2 e_L_839 ?_
  refine lkk_iadd C e_L_840 ?_
  refine lkk_sld C e_L_841 (lk_in hi hL 2 (by omega) (by omega)) ?_
  refine lkk_callMi C hZ2 hcl (As := [.int (xs (nI i + (1 : Int32)).toNatClampNeg), .int (xs (nI i + (2 : Int32)).toNatClampNeg)]) (rest := [.int r]) e_L_842 mlL_116 ⟨_, _, _, _, rfl, rfl⟩ rfl (kk_fitL (Nat.le_of_ble_eq_true rfl) (by decide)) (Nat.le_of_ble_eq_true rfl) rfl (s_X11_first Z2 (xs (nI i + (1 : Int32)).toNatClampNeg) (xs (nI i + (2 : Int32)).toNatClampNeg) σ2 _ h) (fun r' σ2' h => ?_)
  refine lkk_icmp_eq C e_L_845 (fun _ => ?_) (fun c1 => absurd h.1 c1)
  exact kend σ1' σ2' h.2
set_option maxRecDepth 4000 in
theorem lc_overfull {Rel : kk_St → kk_St → Prop} (hp : pr_overfull Rel) {Z1 Z2 : kk_Z} {p : Program} {l : Launch} {e : Env} {s : State} {m : MethodId} {below : List Frame} {meth : Method} {c : Code} {b L cells slots : Nat} {xs : Nat → Int32} (C : lk_C Z1 Z2 p s m meth c b L xs) (hZ1 : Z1.1 = l) (hZ2 : Z2.1 = l) (hcl : cells ≤ 600000 ∧ slots ≤ 7302250) (hL : L ≤ 2560) {i : Nat} (hi : i + 5 ≤ L) (σ1 σ2 : kk_St) (hR : Rel σ1 σ2) (kend : ∀ σ1 σ2, Rel σ1 σ2 → LK Z1 Z2 p l e s m below meth c b cells slots 1239 [(0, .ref b), (1, .ref (Z1.2.1 0)), (2, .ref (Z2.2.1 0)), (3, .int (nI i))] [] σ1 σ2) : LK Z1 Z2 p l e s m below meth c b cells slots 850 [(0, .ref b), (1, .ref (Z1.2.1 0)), (2, .ref (Z2.2.1 0)), (3, .int (nI i))] [] σ1 σ2 := by
  have h := hp σ1 σ2 hR (xs (nI i + (1 : Int32)).toNatClampNeg)
  refine lkk_aload_n C 1 rfl e_L_850 ?_
  refine lkk_aload_n C 0 rfl e_L_851 ?_
  refine lkk_iload_n C 3 rfl e_L_852 ?_
  refine lkk_iconst C ic_1 e_L_853 ?_
  refine lkk_iadd C e_L_854 ?_
  refine lkk_sld C e_L_855 (lk_in hi hL 1 (by omega) (by omega)) ?_
  refine lkk_callCip C hZ1 hcl (As := [.int (xs (nI i + (1 : Int32)).toNatClampNeg)]) (rest := []) e_L_856 mlL_117 ⟨_, _, _, _, rfl, rfl⟩ rfl (kk_fitL (Nat.le_of_ble_eq_true rfl) (by decide)) (Nat.le_of_ble_eq_true rfl) rfl (s_X10_overfull Z1 (xs (nI i + (1 : Int32)).toNatClampNeg) σ1 _ h) (fun r h => ?_)
  refine lkk_aload_n C 2 rfl e_L_859 ?_
  refine lkk_aload_n C 0 rfl e_L_860 ?_
  refine lkk_iload_n C 3 rfl e_L_861 ?_
  refine lkk_iconst C ic_1 e_L_862 ?_
  refine lkk_iadd C e_L_863 ?_
  refine lkk_sld C e_L_864 (lk_in hi hL 1 (by omega) (by omega)) ?_
  refine lkk_callMip C hZ2 hcl (As := [.int (xs (nI i + (1 : Int32)).toNatClampNeg)]) (rest := [.int r]) e_L_865 mlL_120 ⟨_, _, _, _, rfl, rfl⟩ rfl (kk_fitL (Nat.le_of_ble_eq_true rfl) (by decide)) (Nat.le_of_ble_eq_true rfl) rfl (s_X11_overfull Z2 (xs (nI i + (1 : Int32)).toNatClampNeg) σ2 _ h) (fun r' h => ?_)
  refine lkk_icmp_eq C e_L_868 (fun _ => ?_) (fun c1 => absurd h.1 c1)
  exact kend σ1 σ2 h.2
set_option maxRecDepth 4000 in
theorem lc_refused {Rel : kk_St → kk_St → Prop} (hp : pr_refused Rel) {Z1 Z2 : kk_Z} {p : Program} {l : Launch} {e : Env} {s : State} {m : MethodId} {below : List Frame} {meth : Method} {c : Code} {b L cells slots : Nat} {xs : Nat → Int32} (C : lk_C Z1 Z2 p s m meth c b L xs) (hZ1 : Z1.1 = l) (hZ2 : Z2.1 = l) (hcl : cells ≤ 600000 ∧ slots ≤ 7302250) (hL : L ≤ 2560) {i : Nat} (hi : i + 5 ≤ L) (σ1 σ2 : kk_St) (hR : Rel σ1 σ2) (kend : ∀ σ1 σ2, Rel σ1 σ2 → LK Z1 Z2 p l e s m below meth c b cells slots 1239 [(0, .ref b), (1, .ref (Z1.2.1 0)), (2, .ref (Z2.2.1 0)), (3, .int (nI i))] [] σ1 σ2) : LK Z1 Z2 p l e s m below meth c b cells slots 873 [(0, .ref b), (1, .ref (Z1.2.1 0)), (2, .ref (Z2.2.1 0)), (3, .int (nI i))] [] σ1 σ2 := by
  have h := hp σ1 σ2 hR (xs (nI i + (1 : Int32)).toNatClampNeg) (xs (nI i + (2 : Int32)).toNatClampNeg)
  refine lkk_aload_n C 1 rfl e_L_873 ?_
  refine lkk_aload_n C 0 rfl e_L_874 ?_
  refine lkk_iload_n C 3 rfl e_L_875 ?_
  refine lkk_iconst C ic_1 e_L_876 ?_
  refine lkk_iadd C e_L_877 ?_
  refine lkk_sld C e_L_878 (lk_in hi hL 1 (by omega) (by omega)) ?_
  refine lkk_aload_n C 0 rfl e_L_879 ?_
  refine lkk_iload_n C 3 rfl e_L_880 ?_
  refine lkk_iconst C ic_2 e_L_881 ?_
  refine lkk_iadd C e_L_882 ?_
  refine lkk_sld C e_L_883 (lk_in hi hL 2 (by omega) (by omega)) ?_
  refine lkk_callCi C hZ1 hcl (As := [.int (xs (nI i + (1 : Int32)).toNatClampNeg), .int (xs (nI i + (2 : Int32)).toNatClampNeg)]) (rest := []) e_L_884 mlL_121 ⟨_, _, _, _, rfl, rfl⟩ rfl (kk_fitL (Nat.le_of_ble_eq_true rfl) (by decide)) (Nat.le_of_ble_eq_true rfl) rfl (s_X10_refused Z1 (xs (nI i + (1 : Int32)).toNatClampNeg) (xs (nI i + (2 : Int32)).toNatClampNeg) σ1 _ h) (fun r σ1' h => ?_)
  refine lkk_aload_n C 2 rfl e_L_887 ?_
  refine lkk_aload_n C 0 rfl e_L_888 ?_
  refine lkk_iload_n C 3 rfl e_L_889 ?_
  refine lkk_iconst C ic_1 e_L_890 ?_
  refine lkk_iadd C e_L_891 ?_
  refine lkk_sld C e_L_892 (lk_in hi hL 1 (by omega) (by omega)) ?_
  refine lkk_aload_n C 0 rfl e_L_893 ?_
  refine lkk_iload_n C 3 rfl e_L_894 ?_
  refine lkk_iconst C ic_2 e_L_895 ?_
  refine lkk_iadd C e_L_896 ?_
  refine lkk_sld C e_L_897 (lk_in hi hL 2 (by omega) (by omega)) ?_
  refine lkk_callMi C hZ2 hcl (As := [.int (xs (nI i + (1 : Int32)).toNatClampNeg), .int (xs (nI i + (2 : Int32)).toNatClampNeg)]) (rest := [.int r]) e_L_898 mlL_124 ⟨_, _, _, _, rfl, rfl⟩ rfl (kk_fitL (Nat.le_of_ble_eq_true rfl) (by decide)) (Nat.le_of_ble_eq_true rfl) rfl (s_X11_refused Z2 (xs (nI i + (1 : Int32)).toNatClampNeg) (xs (nI i + (2 : Int32)).toNatClampNeg) σ2 _ h) (fun r' σ2' h => ?_)
  refine lkk_icmp_eq C e_L_901 (fun _ => ?_) (fun c1 => absurd h.1 c1)
  exact kend σ1' σ2' h.2
set_option maxRecDepth 4000 in
theorem lc_list {Rel : kk_St → kk_St → Prop} (hp : pr_list Rel) {Z1 Z2 : kk_Z} {p : Program} {l : Launch} {e : Env} {s : State} {m : MethodId} {below : List Frame} {meth : Method} {c : Code} {b L cells slots : Nat} {xs : Nat → Int32} (C : lk_C Z1 Z2 p s m meth c b L xs) (hZ1 : Z1.1 = l) (hZ2 : Z2.1 = l) (hcl : cells ≤ 600000 ∧ slots ≤ 7302250) (hL : L ≤ 2560) {i : Nat} (hi : i + 5 ≤ L) (σ1 σ2 : kk_St) (hR : Rel σ1 σ2) (kend : ∀ σ1 σ2, Rel σ1 σ2 → LK Z1 Z2 p l e s m below meth c b cells slots 1239 [(0, .ref b), (1, .ref (Z1.2.1 0)), (2, .ref (Z2.2.1 0)), (3, .int (nI i))] [] σ1 σ2) : LK Z1 Z2 p l e s m below meth c b cells slots 906 [(0, .ref b), (1, .ref (Z1.2.1 0)), (2, .ref (Z2.2.1 0)), (3, .int (nI i))] [] σ1 σ2 := by
  have h := hp σ1 σ2 hR (xs (nI i + (1 : Int32)).toNatClampNeg) (xs (nI i + (2 : Int32)).toNatClampNeg)
  refine lkk_aload_n C 1 rfl e_L_906 ?_
  refine lkk_aload_n C 0 rfl e_L_907 ?_
  refine lkk_iload_n C 3 rfl e_L_908 ?_
  refine lkk_iconst C ic_1 e_L_909 ?_
  refine lkk_iadd C e_L_910 ?_
  refine lkk_sld C e_L_911 (lk_in hi hL 1 (by omega) (by omega)) ?_
  refine lkk_aload_n C 0 rfl e_L_912 ?_
  refine lkk_iload_n C 3 rfl e_L_913 ?_
  refine lkk_iconst C ic_2 e_L_914 ?_
  refine lkk_iadd C e_L_915 ?_
  refine lkk_sld C e_L_916 (lk_in hi hL 2 (by omega) (by omega)) ?_
  refine lkk_callCi C hZ1 hcl (As := [.int (xs (nI i + (1 : Int32)).toNatClampNeg), .int (xs (nI i + (2 : Int32)).toNatClampNeg)]) (rest := []) e_L_917 mlL_125 ⟨_, _, _, _, rfl, rfl⟩ rfl (kk_fitL (Nat.le_of_ble_eq_true rfl) (by decide)) (Nat.le_of_ble_eq_true rfl) rfl (s_X10_list Z1 (xs (nI i + (1 : Int32)).toNatClampNeg) (xs (nI i + (2 : Int32)).toNatClampNeg) σ1 _ h) (fun r σ1' h => ?_)
  refine lkk_aload_n C 2 rfl e_L_920 ?_
  refine lkk_aload_n C 0 rfl e_L_921 ?_
  refine lkk_iload_n C 3 rfl e_L_922 ?_
  refine lkk_iconst C ic_1 e_L_923 ?_
  refine lkk_iadd C e_L_924 ?_
  refine lkk_sld C e_L_925 (lk_in hi hL 1 (by omega) (by omega)) ?_
  refine lkk_aload_n C 0 rfl e_L_926 ?_
  refine lkk_iload_n C 3 rfl e_L_927 ?_
  refine lkk_iconst C ic_2 e_L_928 ?_
  refine lkk_iadd C e_L_929 ?_
  refine lkk_sld C e_L_930 (lk_in hi hL 2 (by omega) (by omega)) ?_
  refine lkk_callMi C hZ2 hcl (As := [.int (xs (nI i + (1 : Int32)).toNatClampNeg), .int (xs (nI i + (2 : Int32)).toNatClampNeg)]) (rest := [.int r]) e_L_931 mlL_128 ⟨_, _, _, _, rfl, rfl⟩ rfl (kk_fitL (Nat.le_of_ble_eq_true rfl) (by decide)) (Nat.le_of_ble_eq_true rfl) rfl (s_X11_list Z2 (xs (nI i + (1 : Int32)).toNatClampNeg) (xs (nI i + (2 : Int32)).toNatClampNeg) σ2 _ h) (fun r' σ2' h => ?_)
  refine lkk_icmp_eq C e_L_934 (fun _ => ?_) (fun c1 => absurd h.1 c1)
  exact kend σ1' σ2' h.2
set_option maxRecDepth 4000 in
theorem lc_listed {Rel : kk_St → kk_St → Prop} (hp : pr_listed Rel) {Z1 Z2 : kk_Z} {p : Program} {l : Launch} {e : Env} {s : State} {m : MethodId} {below : List Frame} {meth : Method} {c : Code} {b L cells slots : Nat} {xs : Nat → Int32} (C : lk_C Z1 Z2 p s m meth c b L xs) (hZ1 : Z1.1 = l) (hZ2 : Z2.1 = l) (hcl : cells ≤ 600000 ∧ slots ≤ 7302250) (hL : L ≤ 2560) {i : Nat} (hi : i + 5 ≤ L) (σ1 σ2 : kk_St) (hR : Rel σ1 σ2) (kend : ∀ σ1 σ2, Rel σ1 σ2 → LK Z1 Z2 p l e s m below meth c b cells slots 1239 [(0, .ref b), (1, .ref (Z1.2.1 0)), (2, .ref (Z2.2.1 0)), (3, .int (nI i))] [] σ1 σ2) : LK Z1 Z2 p l e s m below meth c b cells slots 939 [(0, .ref b), (1, .ref (Z1.2.1 0)), (2, .ref (Z2.2.1 0)), (3, .int (nI i))] [] σ1 σ2 := by
  have h := hp σ1 σ2 hR (xs (nI i + (1 : Int32)).toNatClampNeg)
  refine lkk_aload_n C 1 rfl e_L_939 ?_
  refine lkk_aload_n C 0 rfl e_L_940 ?_
  refine lkk_iload_n C 3 rfl e_L_941 ?_
  refine lkk_iconst C ic_1 e_L_942 ?_
  refine lkk_iadd C e_L_943 ?_
  refine lkk_sld C e_L_944 (lk_in hi hL 1 (by omega) (by omega)) ?_
  refine lkk_callCi C hZ1 hcl (As := [.int (xs (nI i + (1 : Int32)).toNatClampNeg)]) (rest := []) e_L_945 mlL_129 ⟨_, _, _, _, rfl, rfl⟩ rfl (kk_fitL (Nat.le_of_ble_eq_true rfl) (by decide)) (Nat.le_of_ble_eq_true rfl) rfl (s_X10_listed Z1 (xs (nI i + (1 : Int32)).toNatClampNeg) σ1 _ h) (fun r σ1' h => ?_)
  refine lkk_aload_n C 2 rfl e_L_948 ?_
  refine lkk_aload_n C 0 rfl e_L_949 ?_
  refine lkk_iload_n C 3 rfl e_L_950 ?_
  refine lkk_iconst C ic_1 e_L_951 ?_
  refine lkk_iadd C e_L_952 ?_
  refine lkk_sld C e_L_953 (lk_in hi hL 1 (by omega) (by omega)) ?_
  refine lkk_callMi C hZ2 hcl (As := [.int (xs (nI i + (1 : Int32)).toNatClampNeg)]) (rest := [.int r]) e_L_954 mlL_132 ⟨_, _, _, _, rfl, rfl⟩ rfl (kk_fitL (Nat.le_of_ble_eq_true rfl) (by decide)) (Nat.le_of_ble_eq_true rfl) rfl (s_X11_listed Z2 (xs (nI i + (1 : Int32)).toNatClampNeg) σ2 _ h) (fun r' σ2' h => ?_)
  refine lkk_icmp_eq C e_L_957 (fun _ => ?_) (fun c1 => absurd h.1 c1)
  exact kend σ1' σ2' h.2
set_option maxRecDepth 4000 in
theorem lc_free {Rel : kk_St → kk_St → Prop} (hp : pr_free Rel) {Z1 Z2 : kk_Z} {p : Program} {l : Launch} {e : Env} {s : State} {m : MethodId} {below : List Frame} {meth : Method} {c : Code} {b L cells slots : Nat} {xs : Nat → Int32} (C : lk_C Z1 Z2 p s m meth c b L xs) (hZ1 : Z1.1 = l) (hZ2 : Z2.1 = l) (hcl : cells ≤ 600000 ∧ slots ≤ 7302250) (hL : L ≤ 2560) {i : Nat} (hi : i + 5 ≤ L) (σ1 σ2 : kk_St) (hR : Rel σ1 σ2) (kend : ∀ σ1 σ2, Rel σ1 σ2 → LK Z1 Z2 p l e s m below meth c b cells slots 1239 [(0, .ref b), (1, .ref (Z1.2.1 0)), (2, .ref (Z2.2.1 0)), (3, .int (nI i))] [] σ1 σ2) : LK Z1 Z2 p l e s m below meth c b cells slots 962 [(0, .ref b), (1, .ref (Z1.2.1 0)), (2, .ref (Z2.2.1 0)), (3, .int (nI i))] [] σ1 σ2 := by
  have h := hp σ1 σ2 hR (xs (nI i + (1 : Int32)).toNatClampNeg)
  refine lkk_aload_n C 1 rfl e_L_962 ?_
  refine lkk_aload_n C 0 rfl e_L_963 ?_
  refine lkk_iload_n C 3 rfl e_L_964 ?_
  refine lkk_iconst C ic_1 e_L_965 ?_
  refine lkk_iadd C e_L_966 ?_
  refine lkk_sld C e_L_967 (lk_in hi hL 1 (by omega) (by omega)) ?_
  refine lkk_callCip C hZ1 hcl (As := [.int (xs (nI i + (1 : Int32)).toNatClampNeg)]) (rest := []) e_L_968 mlL_133 ⟨_, _, _, _, rfl, rfl⟩ rfl (kk_fitL (Nat.le_of_ble_eq_true rfl) (by decide)) (Nat.le_of_ble_eq_true rfl) rfl (s_X10_free Z1 (xs (nI i + (1 : Int32)).toNatClampNeg) σ1 _ h) (fun r h => ?_)
  refine lkk_aload_n C 2 rfl e_L_971 ?_
  refine lkk_aload_n C 0 rfl e_L_972 ?_
  refine lkk_iload_n C 3 rfl e_L_973 ?_
  refine lkk_iconst C ic_1 e_L_974 ?_
  refine lkk_iadd C e_L_975 ?_
  refine lkk_sld C e_L_976 (lk_in hi hL 1 (by omega) (by omega)) ?_
  refine lkk_callMip C hZ2 hcl (As := [.int (xs (nI i + (1 : Int32)).toNatClampNeg)]) (rest := [.int r]) e_L_977 mlL_136 ⟨_, _, _, _, rfl, rfl⟩ rfl (kk_fitL (Nat.le_of_ble_eq_true rfl) (by decide)) (Nat.le_of_ble_eq_true rfl) rfl (s_X11_free Z2 (xs (nI i + (1 : Int32)).toNatClampNeg) σ2 _ h) (fun r' h => ?_)
  refine lkk_icmp_eq C e_L_980 (fun _ => ?_) (fun c1 => absurd h.1 c1)
  exact kend σ1 σ2 h.2
set_option maxRecDepth 4000 in
theorem lc_longest {Rel : kk_St → kk_St → Prop} (hp : pr_longest Rel) {Z1 Z2 : kk_Z} {p : Program} {l : Launch} {e : Env} {s : State} {m : MethodId} {below : List Frame} {meth : Method} {c : Code} {b L cells slots : Nat} {xs : Nat → Int32} (C : lk_C Z1 Z2 p s m meth c b L xs) (hZ1 : Z1.1 = l) (hZ2 : Z2.1 = l) (hcl : cells ≤ 600000 ∧ slots ≤ 7302250) (hL : L ≤ 2560) {i : Nat} (hi : i + 5 ≤ L) (σ1 σ2 : kk_St) (hR : Rel σ1 σ2) (kend : ∀ σ1 σ2, Rel σ1 σ2 → LK Z1 Z2 p l e s m below meth c b cells slots 1239 [(0, .ref b), (1, .ref (Z1.2.1 0)), (2, .ref (Z2.2.1 0)), (3, .int (nI i))] [] σ1 σ2) : LK Z1 Z2 p l e s m below meth c b cells slots 985 [(0, .ref b), (1, .ref (Z1.2.1 0)), (2, .ref (Z2.2.1 0)), (3, .int (nI i))] [] σ1 σ2 := by
  have h := hp σ1 σ2 hR (xs (nI i + (1 : Int32)).toNatClampNeg)
  refine lkk_aload_n C 1 rfl e_L_985 ?_
  refine lkk_aload_n C 0 rfl e_L_986 ?_
  refine lkk_iload_n C 3 rfl e_L_987 ?_
  refine lkk_iconst C ic_1 e_L_988 ?_
  refine lkk_iadd C e_L_989 ?_
  refine lkk_sld C e_L_990 (lk_in hi hL 1 (by omega) (by omega)) ?_
  refine lkk_callCip C hZ1 hcl (As := [.int (xs (nI i + (1 : Int32)).toNatClampNeg)]) (rest := []) e_L_991 mlL_137 ⟨_, _, _, _, rfl, rfl⟩ rfl (kk_fitL (Nat.le_of_ble_eq_true rfl) (by decide)) (Nat.le_of_ble_eq_true rfl) rfl (s_X10_longest Z1 (xs (nI i + (1 : Int32)).toNatClampNeg) σ1 _ h) (fun r h => ?_)
  refine lkk_aload_n C 2 rfl e_L_994 ?_
  refine lkk_aload_n C 0 rfl e_L_995 ?_
  refine lkk_iload_n C 3 rfl e_L_996 ?_
  refine lkk_iconst C ic_1 e_L_997 ?_
  refine lkk_iadd C e_L_998 ?_
  refine lkk_sld C e_L_999 (lk_in hi hL 1 (by omega) (by omega)) ?_
  refine lkk_callMi C hZ2 hcl (As := [.int (xs (nI i + (1 : Int32)).toNatClampNeg)]) (rest := [.int r]) e_L_1000 mlL_140 ⟨_, _, _, _, rfl, rfl⟩ rfl (kk_fitL (Nat.le_of_ble_eq_true rfl) (by decide)) (Nat.le_of_ble_eq_true rfl) rfl (s_X11_longest Z2 (xs (nI i + (1 : Int32)).toNatClampNeg) σ2 _ h) (fun r' σ2' h => ?_)
  refine lkk_icmp_eq C e_L_1003 (fun _ => ?_) (fun c1 => absurd h.1 c1)
  exact kend σ1 σ2' h.2
set_option maxRecDepth 4000 in
theorem lc_sets {Rel : kk_St → kk_St → Prop} (hp : pr_sets Rel) {Z1 Z2 : kk_Z} {p : Program} {l : Launch} {e : Env} {s : State} {m : MethodId} {below : List Frame} {meth : Method} {c : Code} {b L cells slots : Nat} {xs : Nat → Int32} (C : lk_C Z1 Z2 p s m meth c b L xs) (hZ1 : Z1.1 = l) (hZ2 : Z2.1 = l) (hcl : cells ≤ 600000 ∧ slots ≤ 7302250) (hL : L ≤ 2560) {i : Nat} (hi : i + 5 ≤ L) (σ1 σ2 : kk_St) (hR : Rel σ1 σ2) (kend : ∀ σ1 σ2, Rel σ1 σ2 → LK Z1 Z2 p l e s m below meth c b cells slots 1239 [(0, .ref b), (1, .ref (Z1.2.1 0)), (2, .ref (Z2.2.1 0)), (3, .int (nI i))] [] σ1 σ2) : LK Z1 Z2 p l e s m below meth c b cells slots 1008 [(0, .ref b), (1, .ref (Z1.2.1 0)), (2, .ref (Z2.2.1 0)), (3, .int (nI i))] [] σ1 σ2 := by
  have h := hp σ1 σ2 hR (xs (nI i + (1 : Int32)).toNatClampNeg)
  refine lkk_aload_n C 1 rfl e_L_1008 ?_
  refine lkk_aload_n C 0 rfl e_L_1009 ?_
  refine lkk_iload_n C 3 rfl e_L_1010 ?_
  refine lkk_iconst C ic_1 e_L_1011 ?_
  refine lkk_iadd C e_L_1012 ?_
  refine lkk_sld C e_L_1013 (lk_in hi hL 1 (by omega) (by omega)) ?_
  refine lkk_callCi C hZ1 hcl (As := [.int (xs (nI i + (1 : Int32)).toNatClampNeg)]) (rest := []) e_L_1014 mlL_141 ⟨_, _, _, _, rfl, rfl⟩ rfl (kk_fitL (Nat.le_of_ble_eq_true rfl) (by decide)) (Nat.le_of_ble_eq_true rfl) rfl (s_X10_sets Z1 (xs (nI i + (1 : Int32)).toNatClampNeg) σ1 _ h) (fun r σ1' h => ?_)
  refine lkk_aload_n C 2 rfl e_L_1017 ?_
  refine lkk_aload_n C 0 rfl e_L_1018 ?_
  refine lkk_iload_n C 3 rfl e_L_1019 ?_
  refine lkk_iconst C ic_1 e_L_1020 ?_
  refine lkk_iadd C e_L_1021 ?_
  refine lkk_sld C e_L_1022 (lk_in hi hL 1 (by omega) (by omega)) ?_
  refine lkk_callMi C hZ2 hcl (As := [.int (xs (nI i + (1 : Int32)).toNatClampNeg)]) (rest := [.int r]) e_L_1023 mlL_144 ⟨_, _, _, _, rfl, rfl⟩ rfl (kk_fitL (Nat.le_of_ble_eq_true rfl) (by decide)) (Nat.le_of_ble_eq_true rfl) rfl (s_X11_sets Z2 (xs (nI i + (1 : Int32)).toNatClampNeg) σ2 _ h) (fun r' σ2' h => ?_)
  refine lkk_icmp_eq C e_L_1026 (fun _ => ?_) (fun c1 => absurd h.1 c1)
  exact kend σ1' σ2' h.2
set_option maxRecDepth 4000 in
theorem lc_critical {Rel : kk_St → kk_St → Prop} (hp : pr_critical Rel) {Z1 Z2 : kk_Z} {p : Program} {l : Launch} {e : Env} {s : State} {m : MethodId} {below : List Frame} {meth : Method} {c : Code} {b L cells slots : Nat} {xs : Nat → Int32} (C : lk_C Z1 Z2 p s m meth c b L xs) (hZ1 : Z1.1 = l) (hZ2 : Z2.1 = l) (hcl : cells ≤ 600000 ∧ slots ≤ 7302250) (hL : L ≤ 2560) {i : Nat} (hi : i + 5 ≤ L) (σ1 σ2 : kk_St) (hR : Rel σ1 σ2) (kend : ∀ σ1 σ2, Rel σ1 σ2 → LK Z1 Z2 p l e s m below meth c b cells slots 1239 [(0, .ref b), (1, .ref (Z1.2.1 0)), (2, .ref (Z2.2.1 0)), (3, .int (nI i))] [] σ1 σ2) : LK Z1 Z2 p l e s m below meth c b cells slots 1031 [(0, .ref b), (1, .ref (Z1.2.1 0)), (2, .ref (Z2.2.1 0)), (3, .int (nI i))] [] σ1 σ2 := by
  have h := hp σ1 σ2 hR ()
  refine lkk_aload_n C 1 rfl e_L_1031 ?_
  refine lkk_callCi C hZ1 hcl (As := []) (rest := []) e_L_1032 mlL_145 ⟨_, _, _, _, rfl, rfl⟩ rfl (kk_fitL (Nat.le_of_ble_eq_true rfl) (by decide)) (Nat.le_of_ble_eq_true rfl) rfl (s_X10_critical Z1 σ1 _ h) (fun r σ1' h => ?_)
  refine lkk_aload_n C 2 rfl e_L_1035 ?_
  refine lkk_callMi C hZ2 hcl (As := []) (rest := [.int r]) e_L_1036 mlL_148 ⟨_, _, _, _, rfl, rfl⟩ rfl (kk_fitL (Nat.le_of_ble_eq_true rfl) (by decide)) (Nat.le_of_ble_eq_true rfl) rfl (s_X11_critical Z2 σ2 _ h) (fun r' σ2' h => ?_)
  refine lkk_icmp_eq C e_L_1039 (fun _ => ?_) (fun c1 => absurd h.1 c1)
  exact kend σ1' σ2' h.2
set_option maxRecDepth 4000 in
theorem lc_kinds {Rel : kk_St → kk_St → Prop} (hp : pr_kinds Rel) {Z1 Z2 : kk_Z} {p : Program} {l : Launch} {e : Env} {s : State} {m : MethodId} {below : List Frame} {meth : Method} {c : Code} {b L cells slots : Nat} {xs : Nat → Int32} (C : lk_C Z1 Z2 p s m meth c b L xs) (hZ1 : Z1.1 = l) (hZ2 : Z2.1 = l) (hcl : cells ≤ 600000 ∧ slots ≤ 7302250) (hL : L ≤ 2560) {i : Nat} (hi : i + 5 ≤ L) (σ1 σ2 : kk_St) (hR : Rel σ1 σ2) (kend : ∀ σ1 σ2, Rel σ1 σ2 → LK Z1 Z2 p l e s m below meth c b cells slots 1239 [(0, .ref b), (1, .ref (Z1.2.1 0)), (2, .ref (Z2.2.1 0)), (3, .int (nI i))] [] σ1 σ2) : LK Z1 Z2 p l e s m below meth c b cells slots 1044 [(0, .ref b), (1, .ref (Z1.2.1 0)), (2, .ref (Z2.2.1 0)), (3, .int (nI i))] [] σ1 σ2 := by
  have h := hp σ1 σ2 hR (xs (nI i + (1 : Int32)).toNatClampNeg)
  refine lkk_aload_n C 1 rfl e_L_1044 ?_
  refine lkk_aload_n C 0 rfl e_L_1045 ?_
  refine lkk_iload_n C 3 rfl e_L_1046 ?_
  refine lkk_iconst C ic_1 e_L_1047 ?_
  refine lkk_iadd C e_L_1048 ?_
  refine lkk_sld C e_L_1049 (lk_in hi hL 1 (by omega) (by omega)) ?_
  refine lkk_callCi C hZ1 hcl (As := [.int (xs (nI i + (1 : Int32)).toNatClampNeg)]) (rest := []) e_L_1050 mlL_149 ⟨_, _, _, _, rfl, rfl⟩ rfl (kk_fitL (Nat.le_of_ble_eq_true rfl) (by decide)) (Nat.le_of_ble_eq_true rfl) rfl (s_X10_kinds Z1 (xs (nI i + (1 : Int32)).toNatClampNeg) σ1 _ h) (fun r σ1' h => ?_)
  refine lkk_aload_n C 2 rfl e_L_1053 ?_
  refine lkk_aload_n C 0 rfl e_L_1054 ?_
  refine lkk_iload_n C 3 rfl e_L_1055 ?_
  refine lkk_iconst C ic_1 e_L_1056 ?_
  refine lkk_iadd C e_L_1057 ?_
  refine lkk_sld C e_L_1058 (lk_in hi hL 1 (by omega) (by omega)) ?_
  refine lkk_callMi C hZ2 hcl (As := [.int (xs (nI i + (1 : Int32)).toNatClampNeg)]) (rest := [.int r]) e_L_1059 mlL_152 ⟨_, _, _, _, rfl, rfl⟩ rfl (kk_fitL (Nat.le_of_ble_eq_true rfl) (by decide)) (Nat.le_of_ble_eq_true rfl) rfl (s_X11_kinds Z2 (xs (nI i + (1 : Int32)).toNatClampNeg) σ2 _ h) (fun r' σ2' h => ?_)
  refine lkk_icmp_eq C e_L_1062 (fun _ => ?_) (fun c1 => absurd h.1 c1)
  exact kend σ1' σ2' h.2
set_option maxRecDepth 4000 in
theorem lc_turns {Rel : kk_St → kk_St → Prop} (hp : pr_turns Rel) {Z1 Z2 : kk_Z} {p : Program} {l : Launch} {e : Env} {s : State} {m : MethodId} {below : List Frame} {meth : Method} {c : Code} {b L cells slots : Nat} {xs : Nat → Int32} (C : lk_C Z1 Z2 p s m meth c b L xs) (hZ1 : Z1.1 = l) (hZ2 : Z2.1 = l) (hcl : cells ≤ 600000 ∧ slots ≤ 7302250) (hL : L ≤ 2560) {i : Nat} (hi : i + 5 ≤ L) (σ1 σ2 : kk_St) (hR : Rel σ1 σ2) (kend : ∀ σ1 σ2, Rel σ1 σ2 → LK Z1 Z2 p l e s m below meth c b cells slots 1239 [(0, .ref b), (1, .ref (Z1.2.1 0)), (2, .ref (Z2.2.1 0)), (3, .int (nI i))] [] σ1 σ2) : LK Z1 Z2 p l e s m below meth c b cells slots 1067 [(0, .ref b), (1, .ref (Z1.2.1 0)), (2, .ref (Z2.2.1 0)), (3, .int (nI i))] [] σ1 σ2 := by
  have h := hp σ1 σ2 hR (xs (nI i + (1 : Int32)).toNatClampNeg)
  refine lkk_aload_n C 1 rfl e_L_1067 ?_
  refine lkk_aload_n C 0 rfl e_L_1068 ?_
  refine lkk_iload_n C 3 rfl e_L_1069 ?_
  refine lkk_iconst C ic_1 e_L_1070 ?_
  refine lkk_iadd C e_L_1071 ?_
  refine lkk_sld C e_L_1072 (lk_in hi hL 1 (by omega) (by omega)) ?_
  refine lkk_callCi C hZ1 hcl (As := [.int (xs (nI i + (1 : Int32)).toNatClampNeg)]) (rest := []) e_L_1073 mlL_153 ⟨_, _, _, _, rfl, rfl⟩ rfl (kk_fitL (Nat.le_of_ble_eq_true rfl) (by decide)) (Nat.le_of_ble_eq_true rfl) rfl (s_X10_turns Z1 (xs (nI i + (1 : Int32)).toNatClampNeg) σ1 _ h) (fun r σ1' h => ?_)
  refine lkk_aload_n C 2 rfl e_L_1076 ?_
  refine lkk_aload_n C 0 rfl e_L_1077 ?_
  refine lkk_iload_n C 3 rfl e_L_1078 ?_
  refine lkk_iconst C ic_1 e_L_1079 ?_
  refine lkk_iadd C e_L_1080 ?_
  refine lkk_sld C e_L_1081 (lk_in hi hL 1 (by omega) (by omega)) ?_
  refine lkk_callMi C hZ2 hcl (As := [.int (xs (nI i + (1 : Int32)).toNatClampNeg)]) (rest := [.int r]) e_L_1082 mlL_156 ⟨_, _, _, _, rfl, rfl⟩ rfl (kk_fitL (Nat.le_of_ble_eq_true rfl) (by decide)) (Nat.le_of_ble_eq_true rfl) rfl (s_X11_turns Z2 (xs (nI i + (1 : Int32)).toNatClampNeg) σ2 _ h) (fun r' σ2' h => ?_)
  refine lkk_icmp_eq C e_L_1085 (fun _ => ?_) (fun c1 => absurd h.1 c1)
  exact kend σ1' σ2' h.2
set_option maxRecDepth 4000 in
theorem lc_chains {Rel : kk_St → kk_St → Prop} (hp : pr_chains Rel) {Z1 Z2 : kk_Z} {p : Program} {l : Launch} {e : Env} {s : State} {m : MethodId} {below : List Frame} {meth : Method} {c : Code} {b L cells slots : Nat} {xs : Nat → Int32} (C : lk_C Z1 Z2 p s m meth c b L xs) (hZ1 : Z1.1 = l) (hZ2 : Z2.1 = l) (hcl : cells ≤ 600000 ∧ slots ≤ 7302250) (hL : L ≤ 2560) {i : Nat} (hi : i + 5 ≤ L) (σ1 σ2 : kk_St) (hR : Rel σ1 σ2) (kend : ∀ σ1 σ2, Rel σ1 σ2 → LK Z1 Z2 p l e s m below meth c b cells slots 1239 [(0, .ref b), (1, .ref (Z1.2.1 0)), (2, .ref (Z2.2.1 0)), (3, .int (nI i))] [] σ1 σ2) : LK Z1 Z2 p l e s m below meth c b cells slots 1090 [(0, .ref b), (1, .ref (Z1.2.1 0)), (2, .ref (Z2.2.1 0)), (3, .int (nI i))] [] σ1 σ2 := by
  have h := hp σ1 σ2 hR (xs (nI i + (1 : Int32)).toNatClampNeg) (xs (nI i + (2 : Int32)).toNatClampNeg)
  refine lkk_aload_n C 1 rfl e_L_1090 ?_
  refine lkk_aload_n C 0 rfl e_L_1091 ?_
  refine lkk_iload_n C 3 rfl e_L_1092 ?_
  refine lkk_iconst C ic_1 e_L_1093 ?_
  refine lkk_iadd C e_L_1094 ?_
  refine lkk_sld C e_L_1095 (lk_in hi hL 1 (by omega) (by omega)) ?_
  refine lkk_aload_n C 0 rfl e_L_1096 ?_
  refine lkk_iload_n C 3 rfl e_L_1097 ?_
  refine lkk_iconst C ic_2 e_L_1098 ?_
  refine lkk_iadd C e_L_1099 ?_
  refine lkk_sld C e_L_1100 (lk_in hi hL 2 (by omega) (by omega)) ?_
  refine lkk_callCip C hZ1 hcl (As := [.int (xs (nI i + (1 : Int32)).toNatClampNeg), .int (xs (nI i + (2 : Int32)).toNatClampNeg)]) (rest := []) e_L_1101 mlL_157 ⟨_, _, _, _, rfl, rfl⟩ rfl (kk_fitL (Nat.le_of_ble_eq_true rfl) (by decide)) (Nat.le_of_ble_eq_true rfl) rfl (s_X10_chains Z1 (xs (nI i + (1 : Int32)).toNatClampNeg) (xs (nI i + (2 : Int32)).toNatClampNeg) σ1 _ h) (fun r h => ?_)
  refine lkk_aload_n C 2 rfl e_L_1104 ?_
  refine lkk_aload_n C 0 rfl e_L_1105 ?_
  refine lkk_iload_n C 3 rfl e_L_1106 ?_
  refine lkk_iconst C ic_1 e_L_1107 ?_
  refine lkk_iadd C e_L_1108 ?_
  refine lkk_sld C e_L_1109 (lk_in hi hL 1 (by omega) (by omega)) ?_
  refine lkk_aload_n C 0 rfl e_L_1110 ?_
  refine lkk_iload_n C 3 rfl e_L_1111 ?_
  refine lkk_iconst C ic_2 e_L_1112 ?_
  refine lkk_iadd C e_L_1113 ?_
  refine lkk_sld C e_L_1114 (lk_in hi hL 2 (by omega) (by omega)) ?_
  refine lkk_callMi C hZ2 hcl (As := [.int (xs (nI i + (1 : Int32)).toNatClampNeg), .int (xs (nI i + (2 : Int32)).toNatClampNeg)]) (rest := [.int r]) e_L_1115 mlL_160 ⟨_, _, _, _, rfl, rfl⟩ rfl (kk_fitL (Nat.le_of_ble_eq_true rfl) (by decide)) (Nat.le_of_ble_eq_true rfl) rfl (s_X11_chains Z2 (xs (nI i + (1 : Int32)).toNatClampNeg) (xs (nI i + (2 : Int32)).toNatClampNeg) σ2 _ h) (fun r' σ2' h => ?_)
  refine lkk_icmp_eq C e_L_1118 (fun _ => ?_) (fun c1 => absurd h.1 c1)
  exact kend σ1 σ2' h.2
set_option maxRecDepth 4000 in
theorem lc_sides {Rel : kk_St → kk_St → Prop} (hp : pr_sides Rel) {Z1 Z2 : kk_Z} {p : Program} {l : Launch} {e : Env} {s : State} {m : MethodId} {below : List Frame} {meth : Method} {c : Code} {b L cells slots : Nat} {xs : Nat → Int32} (C : lk_C Z1 Z2 p s m meth c b L xs) (hZ1 : Z1.1 = l) (hZ2 : Z2.1 = l) (hcl : cells ≤ 600000 ∧ slots ≤ 7302250) (hL : L ≤ 2560) {i : Nat} (hi : i + 5 ≤ L) (σ1 σ2 : kk_St) (hR : Rel σ1 σ2) (kend : ∀ σ1 σ2, Rel σ1 σ2 → LK Z1 Z2 p l e s m below meth c b cells slots 1239 [(0, .ref b), (1, .ref (Z1.2.1 0)), (2, .ref (Z2.2.1 0)), (3, .int (nI i))] [] σ1 σ2) : LK Z1 Z2 p l e s m below meth c b cells slots 1123 [(0, .ref b), (1, .ref (Z1.2.1 0)), (2, .ref (Z2.2.1 0)), (3, .int (nI i))] [] σ1 σ2 := by
  have h := hp σ1 σ2 hR (xs (nI i + (1 : Int32)).toNatClampNeg)
  refine lkk_aload_n C 1 rfl e_L_1123 ?_
  refine lkk_aload_n C 0 rfl e_L_1124 ?_
  refine lkk_iload_n C 3 rfl e_L_1125 ?_
  refine lkk_iconst C ic_1 e_L_1126 ?_
  refine lkk_iadd C e_L_1127 ?_
  refine lkk_sld C e_L_1128 (lk_in hi hL 1 (by omega) (by omega)) ?_
  refine lkk_callCip C hZ1 hcl (As := [.int (xs (nI i + (1 : Int32)).toNatClampNeg)]) (rest := []) e_L_1129 mlL_161 ⟨_, _, _, _, rfl, rfl⟩ rfl (kk_fitL (Nat.le_of_ble_eq_true rfl) (by decide)) (Nat.le_of_ble_eq_true rfl) rfl (s_X10_sides Z1 (xs (nI i + (1 : Int32)).toNatClampNeg) σ1 _ h) (fun r h => ?_)
  refine lkk_aload_n C 2 rfl e_L_1132 ?_
  refine lkk_aload_n C 0 rfl e_L_1133 ?_
  refine lkk_iload_n C 3 rfl e_L_1134 ?_
  refine lkk_iconst C ic_1 e_L_1135 ?_
  refine lkk_iadd C e_L_1136 ?_
  refine lkk_sld C e_L_1137 (lk_in hi hL 1 (by omega) (by omega)) ?_
  refine lkk_callMi C hZ2 hcl (As := [.int (xs (nI i + (1 : Int32)).toNatClampNeg)]) (rest := [.int r]) e_L_1138 mlL_164 ⟨_, _, _, _, rfl, rfl⟩ rfl (kk_fitL (Nat.le_of_ble_eq_true rfl) (by decide)) (Nat.le_of_ble_eq_true rfl) rfl (s_X11_sides Z2 (xs (nI i + (1 : Int32)).toNatClampNeg) σ2 _ h) (fun r' σ2' h => ?_)
  refine lkk_icmp_eq C e_L_1141 (fun _ => ?_) (fun c1 => absurd h.1 c1)
  exact kend σ1 σ2' h.2
set_option maxRecDepth 4000 in
theorem lc_apart {Rel : kk_St → kk_St → Prop} (hp : pr_apart Rel) {Z1 Z2 : kk_Z} {p : Program} {l : Launch} {e : Env} {s : State} {m : MethodId} {below : List Frame} {meth : Method} {c : Code} {b L cells slots : Nat} {xs : Nat → Int32} (C : lk_C Z1 Z2 p s m meth c b L xs) (hZ1 : Z1.1 = l) (hZ2 : Z2.1 = l) (hcl : cells ≤ 600000 ∧ slots ≤ 7302250) (hL : L ≤ 2560) {i : Nat} (hi : i + 5 ≤ L) (σ1 σ2 : kk_St) (hR : Rel σ1 σ2) (kend : ∀ σ1 σ2, Rel σ1 σ2 → LK Z1 Z2 p l e s m below meth c b cells slots 1239 [(0, .ref b), (1, .ref (Z1.2.1 0)), (2, .ref (Z2.2.1 0)), (3, .int (nI i))] [] σ1 σ2) : LK Z1 Z2 p l e s m below meth c b cells slots 1146 [(0, .ref b), (1, .ref (Z1.2.1 0)), (2, .ref (Z2.2.1 0)), (3, .int (nI i))] [] σ1 σ2 := by
  have h := hp σ1 σ2 hR (xs (nI i + (1 : Int32)).toNatClampNeg)
  refine lkk_aload_n C 1 rfl e_L_1146 ?_
  refine lkk_aload_n C 0 rfl e_L_1147 ?_
  refine lkk_iload_n C 3 rfl e_L_1148 ?_
  refine lkk_iconst C ic_1 e_L_1149 ?_
  refine lkk_iadd C e_L_1150 ?_
  refine lkk_sld C e_L_1151 (lk_in hi hL 1 (by omega) (by omega)) ?_
  refine lkk_callCi C hZ1 hcl (As := [.int (xs (nI i + (1 : Int32)).toNatClampNeg)]) (rest := []) e_L_1152 mlL_165 ⟨_, _, _, _, rfl, rfl⟩ rfl (kk_fitL (Nat.le_of_ble_eq_true rfl) (by decide)) (Nat.le_of_ble_eq_true rfl) rfl (s_X10_apart Z1 (xs (nI i + (1 : Int32)).toNatClampNeg) σ1 _ h) (fun r σ1' h => ?_)
  refine lkk_aload_n C 2 rfl e_L_1155 ?_
  refine lkk_aload_n C 0 rfl e_L_1156 ?_
  refine lkk_iload_n C 3 rfl e_L_1157 ?_
  refine lkk_iconst C ic_1 e_L_1158 ?_
  refine lkk_iadd C e_L_1159 ?_
  refine lkk_sld C e_L_1160 (lk_in hi hL 1 (by omega) (by omega)) ?_
  refine lkk_callMi C hZ2 hcl (As := [.int (xs (nI i + (1 : Int32)).toNatClampNeg)]) (rest := [.int r]) e_L_1161 mlL_168 ⟨_, _, _, _, rfl, rfl⟩ rfl (kk_fitL (Nat.le_of_ble_eq_true rfl) (by decide)) (Nat.le_of_ble_eq_true rfl) rfl (s_X11_apart Z2 (xs (nI i + (1 : Int32)).toNatClampNeg) σ2 _ h) (fun r' σ2' h => ?_)
  refine lkk_icmp_eq C e_L_1164 (fun _ => ?_) (fun c1 => absurd h.1 c1)
  exact kend σ1' σ2' h.2
set_option maxRecDepth 4000 in
theorem lc_ways {Rel : kk_St → kk_St → Prop} (hp : pr_ways Rel) {Z1 Z2 : kk_Z} {p : Program} {l : Launch} {e : Env} {s : State} {m : MethodId} {below : List Frame} {meth : Method} {c : Code} {b L cells slots : Nat} {xs : Nat → Int32} (C : lk_C Z1 Z2 p s m meth c b L xs) (hZ1 : Z1.1 = l) (hZ2 : Z2.1 = l) (hcl : cells ≤ 600000 ∧ slots ≤ 7302250) (hL : L ≤ 2560) {i : Nat} (hi : i + 5 ≤ L) (σ1 σ2 : kk_St) (hR : Rel σ1 σ2) (kend : ∀ σ1 σ2, Rel σ1 σ2 → LK Z1 Z2 p l e s m below meth c b cells slots 1239 [(0, .ref b), (1, .ref (Z1.2.1 0)), (2, .ref (Z2.2.1 0)), (3, .int (nI i))] [] σ1 σ2) : LK Z1 Z2 p l e s m below meth c b cells slots 1169 [(0, .ref b), (1, .ref (Z1.2.1 0)), (2, .ref (Z2.2.1 0)), (3, .int (nI i))] [] σ1 σ2 := by
  have h := hp σ1 σ2 hR (xs (nI i + (1 : Int32)).toNatClampNeg)
  refine lkk_aload_n C 1 rfl e_L_1169 ?_
  refine lkk_aload_n C 0 rfl e_L_1170 ?_
  refine lkk_iload_n C 3 rfl e_L_1171 ?_
  refine lkk_iconst C ic_1 e_L_1172 ?_
  refine lkk_iadd C e_L_1173 ?_
  refine lkk_sld C e_L_1174 (lk_in hi hL 1 (by omega) (by omega)) ?_
  refine lkk_callCl C hZ1 hcl (As := [.int (xs (nI i + (1 : Int32)).toNatClampNeg)]) (rest := []) e_L_1175 mlL_169 ⟨_, _, _, _, rfl, rfl⟩ rfl (kk_fitL (Nat.le_of_ble_eq_true rfl) (by decide)) (Nat.le_of_ble_eq_true rfl) rfl (s_X10_ways Z1 (xs (nI i + (1 : Int32)).toNatClampNeg) σ1 _ h) (fun r σ1' h => ?_)
  refine lkk_aload_n C 2 rfl e_L_1178 ?_
  refine lkk_aload_n C 0 rfl e_L_1179 ?_
  refine lkk_iload_n C 3 rfl e_L_1180 ?_
  refine lkk_iconst C ic_1 e_L_1181 ?_
  refine lkk_iadd C e_L_1182 ?_
  refine lkk_sld C e_L_1183 (lk_in hi hL 1 (by omega) (by omega)) ?_
  refine lkk_callMl C hZ2 hcl (As := [.int (xs (nI i + (1 : Int32)).toNatClampNeg)]) (rest := [.long r]) e_L_1184 mlL_173 ⟨_, _, _, _, rfl, rfl⟩ rfl (kk_fitL (Nat.le_of_ble_eq_true rfl) (by decide)) (Nat.le_of_ble_eq_true rfl) rfl (s_X11_ways Z2 (xs (nI i + (1 : Int32)).toNatClampNeg) σ2 _ h) (fun r' σ2' h => ?_)
  refine lkk_lcmp C e_L_1187 ?_
  refine lkk_if_eq C e_L_1188 (fun _ => ?_) (fun c1 => absurd (by rw [h.1]; exact lk_lcmp0 _) c1)
  exact kend σ1' σ2' h.2
set_option maxRecDepth 4000 in
theorem lc_unlike {Rel : kk_St → kk_St → Prop} (hp : pr_unlike Rel) {Z1 Z2 : kk_Z} {p : Program} {l : Launch} {e : Env} {s : State} {m : MethodId} {below : List Frame} {meth : Method} {c : Code} {b L cells slots : Nat} {xs : Nat → Int32} (C : lk_C Z1 Z2 p s m meth c b L xs) (hZ1 : Z1.1 = l) (hZ2 : Z2.1 = l) (hcl : cells ≤ 600000 ∧ slots ≤ 7302250) (hL : L ≤ 2560) {i : Nat} (hi : i + 5 ≤ L) (σ1 σ2 : kk_St) (hR : Rel σ1 σ2) (kend : ∀ σ1 σ2, Rel σ1 σ2 → LK Z1 Z2 p l e s m below meth c b cells slots 1239 [(0, .ref b), (1, .ref (Z1.2.1 0)), (2, .ref (Z2.2.1 0)), (3, .int (nI i))] [] σ1 σ2) : LK Z1 Z2 p l e s m below meth c b cells slots 1193 [(0, .ref b), (1, .ref (Z1.2.1 0)), (2, .ref (Z2.2.1 0)), (3, .int (nI i))] [] σ1 σ2 := by
  have h := hp σ1 σ2 hR (xs (nI i + (1 : Int32)).toNatClampNeg)
  refine lkk_aload_n C 1 rfl e_L_1193 ?_
  refine lkk_aload_n C 0 rfl e_L_1194 ?_
  refine lkk_iload_n C 3 rfl e_L_1195 ?_
  refine lkk_iconst C ic_1 e_L_1196 ?_
  refine lkk_iadd C e_L_1197 ?_
  refine lkk_sld C e_L_1198 (lk_in hi hL 1 (by omega) (by omega)) ?_
  refine lkk_callCip C hZ1 hcl (As := [.int (xs (nI i + (1 : Int32)).toNatClampNeg)]) (rest := []) e_L_1199 mlL_174 ⟨_, _, _, _, rfl, rfl⟩ rfl (kk_fitL (Nat.le_of_ble_eq_true rfl) (by decide)) (Nat.le_of_ble_eq_true rfl) rfl (s_X10_unlike Z1 (xs (nI i + (1 : Int32)).toNatClampNeg) σ1 _ h) (fun r h => ?_)
  refine lkk_aload_n C 2 rfl e_L_1202 ?_
  refine lkk_aload_n C 0 rfl e_L_1203 ?_
  refine lkk_iload_n C 3 rfl e_L_1204 ?_
  refine lkk_iconst C ic_1 e_L_1205 ?_
  refine lkk_iadd C e_L_1206 ?_
  refine lkk_sld C e_L_1207 (lk_in hi hL 1 (by omega) (by omega)) ?_
  refine lkk_callMip C hZ2 hcl (As := [.int (xs (nI i + (1 : Int32)).toNatClampNeg)]) (rest := [.int r]) e_L_1208 mlL_177 ⟨_, _, _, _, rfl, rfl⟩ rfl (kk_fitL (Nat.le_of_ble_eq_true rfl) (by decide)) (Nat.le_of_ble_eq_true rfl) rfl (s_X11_unlike Z2 (xs (nI i + (1 : Int32)).toNatClampNeg) σ2 _ h) (fun r' h => ?_)
  refine lkk_icmp_eq C e_L_1211 (fun _ => ?_) (fun c1 => absurd h.1 c1)
  exact kend σ1 σ2 h.2
set_option maxRecDepth 4000 in
theorem lc_count {Rel : kk_St → kk_St → Prop} (hp : pr_count Rel) {Z1 Z2 : kk_Z} {p : Program} {l : Launch} {e : Env} {s : State} {m : MethodId} {below : List Frame} {meth : Method} {c : Code} {b L cells slots : Nat} {xs : Nat → Int32} (C : lk_C Z1 Z2 p s m meth c b L xs) (hZ1 : Z1.1 = l) (hZ2 : Z2.1 = l) (hcl : cells ≤ 600000 ∧ slots ≤ 7302250) (hL : L ≤ 2560) {i : Nat} (hi : i + 5 ≤ L) (σ1 σ2 : kk_St) (hR : Rel σ1 σ2) (kend : ∀ σ1 σ2, Rel σ1 σ2 → LK Z1 Z2 p l e s m below meth c b cells slots 1239 [(0, .ref b), (1, .ref (Z1.2.1 0)), (2, .ref (Z2.2.1 0)), (3, .int (nI i))] [] σ1 σ2) : LK Z1 Z2 p l e s m below meth c b cells slots 1216 [(0, .ref b), (1, .ref (Z1.2.1 0)), (2, .ref (Z2.2.1 0)), (3, .int (nI i))] [] σ1 σ2 := by
  have h := hp σ1 σ2 hR (xs (nI i + (1 : Int32)).toNatClampNeg)
  refine lkk_aload_n C 1 rfl e_L_1216 ?_
  refine lkk_aload_n C 0 rfl e_L_1217 ?_
  refine lkk_iload_n C 3 rfl e_L_1218 ?_
  refine lkk_iconst C ic_1 e_L_1219 ?_
  refine lkk_iadd C e_L_1220 ?_
  refine lkk_sld C e_L_1221 (lk_in hi hL 1 (by omega) (by omega)) ?_
  refine lkk_callCip C hZ1 hcl (As := [.int (xs (nI i + (1 : Int32)).toNatClampNeg)]) (rest := []) e_L_1222 mlL_178 ⟨_, _, _, _, rfl, rfl⟩ rfl (kk_fitL (Nat.le_of_ble_eq_true rfl) (by decide)) (Nat.le_of_ble_eq_true rfl) rfl (s_X10_count Z1 (xs (nI i + (1 : Int32)).toNatClampNeg) σ1 _ h) (fun r h => ?_)
  refine lkk_aload_n C 2 rfl e_L_1225 ?_
  refine lkk_aload_n C 0 rfl e_L_1226 ?_
  refine lkk_iload_n C 3 rfl e_L_1227 ?_
  refine lkk_iconst C ic_1 e_L_1228 ?_
  refine lkk_iadd C e_L_1229 ?_
  refine lkk_sld C e_L_1230 (lk_in hi hL 1 (by omega) (by omega)) ?_
  refine lkk_callMip C hZ2 hcl (As := [.int (xs (nI i + (1 : Int32)).toNatClampNeg)]) (rest := [.int r]) e_L_1231 mlL_181 ⟨_, _, _, _, rfl, rfl⟩ rfl (kk_fitL (Nat.le_of_ble_eq_true rfl) (by decide)) (Nat.le_of_ble_eq_true rfl) rfl (s_X11_count Z2 (xs (nI i + (1 : Int32)).toNatClampNeg) σ2 _ h) (fun r' h => ?_)
  refine lkk_icmp_eq C e_L_1234 (fun _ => ?_) (fun c1 => absurd h.1 c1)
  exact kend σ1 σ2 h.2
set_option maxRecDepth 4000 in
theorem law_loop {Rel : kk_St → kk_St → Prop} (hp0 : pr_begin Rel) (hp1 : pr_line Rel) (hp2 : pr_paint Rel) (hp3 : pr_bare Rel) (hp4 : pr_turn Rel) (hp5 : pr_swap Rel) (hp6 : pr_grow Rel) (hp7 : pr_growAll Rel) (hp8 : pr_pair Rel) (hp9 : pr_even Rel) (hp10 : pr_take Rel) (hp11 : pr_keep Rel) (hp12 : pr_back Rel) (hp13 : pr_grown Rel) (hp14 : pr_of Rel) (hp15 : pr_clash Rel) (hp16 : pr_post Rel) (hp17 : pr_colour Rel) (hp18 : pr_chain Rel) (hp19 : pr_idle Rel) (hp20 : pr_calmer Rel) (hp21 : pr_fan Rel) (hp22 : pr_index Rel) (hp23 : pr_first Rel) (hp24 : pr_overfull Rel) (hp25 : pr_refused Rel) (hp26 : pr_list Rel) (hp27 : pr_listed Rel) (hp28 : pr_free Rel) (hp29 : pr_longest Rel) (hp30 : pr_sets Rel) (hp31 : pr_critical Rel) (hp32 : pr_kinds Rel) (hp33 : pr_turns Rel) (hp34 : pr_chains Rel) (hp35 : pr_sides Rel) (hp36 : pr_apart Rel) (hp37 : pr_ways Rel) (hp38 : pr_unlike Rel) (hp39 : pr_count Rel) {Z1 Z2 : kk_Z} {p : Program} {l : Launch} {e : Env} {s : State} {m : MethodId} {below : List Frame} {meth : Method} {c : Code} {b L cells slots : Nat} {xs : Nat → Int32} (C : lk_C Z1 Z2 p s m meth c b L xs) (hZ1 : Z1.1 = l) (hZ2 : Z2.1 = l) (hcl : cells ≤ 600000 ∧ slots ≤ 7302250) (hL : L ≤ 2560) : ∀ (n i : Nat), L < i + n → i ≤ L → ∀ (σ1 σ2 : kk_St), Rel σ1 σ2 → LK Z1 Z2 p l e s m below meth c b cells slots 18 [(0, .ref b), (1, .ref (Z1.2.1 0)), (2, .ref (Z2.2.1 0)), (3, .int (nI i))] [] σ1 σ2 := by
  intro n
  induction n with
  | zero => intro i h1 h2; omega
  | succ n ih =>
    intro i h1 h2 σ1 σ2 hR
    refine lkk_iload_n C 3 rfl e_L_18 ?_
    refine lkk_aload_n C 0 rfl e_L_19 ?_
    refine lkk_slen C e_L_20 ?_
    refine lkk_iconst C ic_5 e_L_21 ?_
    refine lkk_isub C e_L_22 ?_
    have hlen : (Int32.ofNat L - 5 : Int32).toInt = (L : Int) - 5 := lk_len hL
    have hii : (nI i).toInt = (i : Int) := nI_toInt (by omega)
    refine lkk_icmp_gt C e_L_23 (fun _ => ?_) (fun c1 => ?_)
    · intro H locs ls hP1 hP2 hS hl
      refine lv_iconst (v := 1) C.1 C.2.1 e_L_1245.1 (by decide) ?_
      refine va_forget (fun q hq => hS.2.2 q hq) ?_
      refine W.widen (k := 600000) (n := 7302250) hcl.1 hcl.2 ?_
      exact lw_ret C.1 C.2.1 C.2.2.1 C.2.2.2.2.2.2.1 e_L_1246.1
    · have hi : i + 5 ≤ L := by
        rw [Int32.lt_iff_toInt_lt, hlen, hii] at c1
        omega
      have kend : ∀ σ1 σ2, Rel σ1 σ2 → LK Z1 Z2 p l e s m below meth c b cells slots 1239 [(0, .ref b), (1, .ref (Z1.2.1 0)), (2, .ref (Z2.2.1 0)), (3, .int (nI i))] [] σ1 σ2 := by
        intro σ1 σ2 hR
        refine lkk_iinc C (lv' := [(3, .int (nI (i + 5))), (0, .ref b), (1, .ref (Z1.2.1 0)), (2, .ref (Z2.2.1 0))]) e_L_1239 (j := 3) rfl (lk_i5 i) (by decide) rfl ?_
        refine lkk_goto C e_L_1242 ?_
        exact lkk_sub [1, 2, 3, 0] rfl (ih (i + 5) (by omega) hi σ1 σ2 hR)
      refine lkk_aload_n C 0 rfl e_L_26 ?_
      refine lkk_iload_n C 3 rfl e_L_27 ?_
      refine lkk_sld C e_L_28 (lk_in0 hi hL) ?_
      refine lkk_bipush C lsp_63 e_L_29 ?_
      refine lkk_iand C e_L_31 ?_
      generalize (xs (nI i).toNatClampNeg &&& (63 : Int32)) = x
      rcases kk_swc x 40 (by decide) with ⟨j, hj, hx⟩ | hx
      · rcases (show j = 0 ∨ j = 1 ∨ j = 2 ∨ j = 3 ∨ j = 4 ∨ j = 5 ∨ j = 6 ∨ j = 7 ∨ j = 8 ∨ j = 9 ∨ j = 10 ∨ j = 11 ∨ j = 12 ∨ j = 13 ∨ j = 14 ∨ j = 15 ∨ j = 16 ∨ j = 17 ∨ j = 18 ∨ j = 19 ∨ j = 20 ∨ j = 21 ∨ j = 22 ∨ j = 23 ∨ j = 24 ∨ j = 25 ∨ j = 26 ∨ j = 27 ∨ j = 28 ∨ j = 29 ∨ j = 30 ∨ j = 31 ∨ j = 32 ∨ j = 33 ∨ j = 34 ∨ j = 35 ∨ j = 36 ∨ j = 37 ∨ j = 38 ∨ j = 39 by omega) with rfl | rfl | rfl | rfl | rfl | rfl | rfl | rfl | rfl | rfl | rfl | rfl | rfl | rfl | rfl | rfl | rfl | rfl | rfl | rfl | rfl | rfl | rfl | rfl | rfl | rfl | rfl | rfl | rfl | rfl | rfl | rfl | rfl | rfl | rfl | rfl | rfl | rfl | rfl | rfl
        · exact lkk_swIn C (tgt := 208) e_L_32 0 hx (by decide) (by decide) rfl (by decide) (lc_begin hp0 C hZ1 hZ2 hcl hL hi σ1 σ2 hR kend)
        · exact lkk_swIn C (tgt := 231) e_L_32 1 hx (by decide) (by decide) rfl (by decide) (lc_line hp1 C hZ1 hZ2 hcl hL hi σ1 σ2 hR kend)
        · exact lkk_swIn C (tgt := 264) e_L_32 2 hx (by decide) (by decide) rfl (by decide) (lc_paint hp2 C hZ1 hZ2 hcl hL hi σ1 σ2 hR kend)
        · exact lkk_swIn C (tgt := 297) e_L_32 3 hx (by decide) (by decide) rfl (by decide) (lc_bare hp3 C hZ1 hZ2 hcl hL hi σ1 σ2 hR kend)
        · exact lkk_swIn C (tgt := 320) e_L_32 4 hx (by decide) (by decide) rfl (by decide) (lc_turn hp4 C hZ1 hZ2 hcl hL hi σ1 σ2 hR kend)
        · exact lkk_swIn C (tgt := 363) e_L_32 5 hx (by decide) (by decide) rfl (by decide) (lc_swap hp5 C hZ1 hZ2 hcl hL hi σ1 σ2 hR kend)
        · exact lkk_swIn C (tgt := 396) e_L_32 6 hx (by decide) (by decide) rfl (by decide) (lc_grow hp6 C hZ1 hZ2 hcl hL hi σ1 σ2 hR kend)
        · exact lkk_swIn C (tgt := 419) e_L_32 7 hx (by decide) (by decide) rfl (by decide) (lc_growAll hp7 C hZ1 hZ2 hcl hL hi σ1 σ2 hR kend)
        · exact lkk_swIn C (tgt := 432) e_L_32 8 hx (by decide) (by decide) rfl (by decide) (lc_pair hp8 C hZ1 hZ2 hcl hL hi σ1 σ2 hR kend)
        · exact lkk_swIn C (tgt := 445) e_L_32 9 hx (by decide) (by decide) rfl (by decide) (lc_even hp9 C hZ1 hZ2 hcl hL hi σ1 σ2 hR kend)
        · exact lkk_swIn C (tgt := 458) e_L_32 10 hx (by decide) (by decide) rfl (by decide) (lc_take hp10 C hZ1 hZ2 hcl hL hi σ1 σ2 hR kend)
        · exact lkk_swIn C (tgt := 481) e_L_32 11 hx (by decide) (by decide) rfl (by decide) (lc_keep hp11 C hZ1 hZ2 hcl hL hi σ1 σ2 hR kend)
        · exact lkk_swIn C (tgt := 494) e_L_32 12 hx (by decide) (by decide) rfl (by decide) (lc_back hp12 C hZ1 hZ2 hcl hL hi σ1 σ2 hR kend)
        · exact lkk_swIn C (tgt := 507) e_L_32 13 hx (by decide) (by decide) rfl (by decide) (lc_grown hp13 C hZ1 hZ2 hcl hL hi σ1 σ2 hR kend)
        · exact lkk_swIn C (tgt := 530) e_L_32 14 hx (by decide) (by decide) rfl (by decide) (lc_of hp14 C hZ1 hZ2 hcl hL hi σ1 σ2 hR kend)
        · exact lkk_swIn C (tgt := 563) e_L_32 15 hx (by decide) (by decide) rfl (by decide) (lc_clash hp15 C hZ1 hZ2 hcl hL hi σ1 σ2 hR kend)
        · exact lkk_swIn C (tgt := 596) e_L_32 16 hx (by decide) (by decide) rfl (by decide) (lc_post hp16 C hZ1 hZ2 hcl hL hi σ1 σ2 hR kend)
        · exact lkk_swIn C (tgt := 629) e_L_32 17 hx (by decide) (by decide) rfl (by decide) (lc_colour hp17 C hZ1 hZ2 hcl hL hi σ1 σ2 hR kend)
        · exact lkk_swIn C (tgt := 662) e_L_32 18 hx (by decide) (by decide) rfl (by decide) (lc_chain hp18 C hZ1 hZ2 hcl hL hi σ1 σ2 hR kend)
        · exact lkk_swIn C (tgt := 715) e_L_32 19 hx (by decide) (by decide) rfl (by decide) (lc_idle hp19 C hZ1 hZ2 hcl hL hi σ1 σ2 hR kend)
        · exact lkk_swIn C (tgt := 738) e_L_32 20 hx (by decide) (by decide) rfl (by decide) (lc_calmer hp20 C hZ1 hZ2 hcl hL hi σ1 σ2 hR kend)
        · exact lkk_swIn C (tgt := 761) e_L_32 21 hx (by decide) (by decide) rfl (by decide) (lc_fan hp21 C hZ1 hZ2 hcl hL hi σ1 σ2 hR kend)
        · exact lkk_swIn C (tgt := 804) e_L_32 22 hx (by decide) (by decide) rfl (by decide) (lc_index hp22 C hZ1 hZ2 hcl hL hi σ1 σ2 hR kend)
        · exact lkk_swIn C (tgt := 817) e_L_32 23 hx (by decide) (by decide) rfl (by decide) (lc_first hp23 C hZ1 hZ2 hcl hL hi σ1 σ2 hR kend)
        · exact lkk_swIn C (tgt := 850) e_L_32 24 hx (by decide) (by decide) rfl (by decide) (lc_overfull hp24 C hZ1 hZ2 hcl hL hi σ1 σ2 hR kend)
        · exact lkk_swIn C (tgt := 873) e_L_32 25 hx (by decide) (by decide) rfl (by decide) (lc_refused hp25 C hZ1 hZ2 hcl hL hi σ1 σ2 hR kend)
        · exact lkk_swIn C (tgt := 906) e_L_32 26 hx (by decide) (by decide) rfl (by decide) (lc_list hp26 C hZ1 hZ2 hcl hL hi σ1 σ2 hR kend)
        · exact lkk_swIn C (tgt := 939) e_L_32 27 hx (by decide) (by decide) rfl (by decide) (lc_listed hp27 C hZ1 hZ2 hcl hL hi σ1 σ2 hR kend)
        · exact lkk_swIn C (tgt := 962) e_L_32 28 hx (by decide) (by decide) rfl (by decide) (lc_free hp28 C hZ1 hZ2 hcl hL hi σ1 σ2 hR kend)
        · exact lkk_swIn C (tgt := 985) e_L_32 29 hx (by decide) (by decide) rfl (by decide) (lc_longest hp29 C hZ1 hZ2 hcl hL hi σ1 σ2 hR kend)
        · exact lkk_swIn C (tgt := 1008) e_L_32 30 hx (by decide) (by decide) rfl (by decide) (lc_sets hp30 C hZ1 hZ2 hcl hL hi σ1 σ2 hR kend)
        · exact lkk_swIn C (tgt := 1031) e_L_32 31 hx (by decide) (by decide) rfl (by decide) (lc_critical hp31 C hZ1 hZ2 hcl hL hi σ1 σ2 hR kend)
        · exact lkk_swIn C (tgt := 1044) e_L_32 32 hx (by decide) (by decide) rfl (by decide) (lc_kinds hp32 C hZ1 hZ2 hcl hL hi σ1 σ2 hR kend)
        · exact lkk_swIn C (tgt := 1067) e_L_32 33 hx (by decide) (by decide) rfl (by decide) (lc_turns hp33 C hZ1 hZ2 hcl hL hi σ1 σ2 hR kend)
        · exact lkk_swIn C (tgt := 1090) e_L_32 34 hx (by decide) (by decide) rfl (by decide) (lc_chains hp34 C hZ1 hZ2 hcl hL hi σ1 σ2 hR kend)
        · exact lkk_swIn C (tgt := 1123) e_L_32 35 hx (by decide) (by decide) rfl (by decide) (lc_sides hp35 C hZ1 hZ2 hcl hL hi σ1 σ2 hR kend)
        · exact lkk_swIn C (tgt := 1146) e_L_32 36 hx (by decide) (by decide) rfl (by decide) (lc_apart hp36 C hZ1 hZ2 hcl hL hi σ1 σ2 hR kend)
        · exact lkk_swIn C (tgt := 1169) e_L_32 37 hx (by decide) (by decide) rfl (by decide) (lc_ways hp37 C hZ1 hZ2 hcl hL hi σ1 σ2 hR kend)
        · exact lkk_swIn C (tgt := 1193) e_L_32 38 hx (by decide) (by decide) rfl (by decide) (lc_unlike hp38 C hZ1 hZ2 hcl hL hi σ1 σ2 hR kend)
        · exact lkk_swIn C (tgt := 1216) e_L_32 39 hx (by decide) (by decide) rfl (by decide) (lc_count hp39 C hZ1 hZ2 hcl hL hi σ1 σ2 hR kend)
      · exact lkk_swOut C (tgt := 1239) e_L_32 (by omega) (by decide) (kend σ1 σ2 hR)
