/-! constructors: worlds that grow -/
def ct_tys (cI cL : ClassId) : List (ClassId × FieldType) := [(cI, .int), (cL, .long)]
def ct_Pre (D : va_G) (cI cL : ClassId) (ws : va_W) (sz : Nat) (U : State) : Prop := U.heap.size = sz ∧ va_P D vwCl ws U.heap ∧ va_K D vwCl (ct_tys cI cL) U ∧ kk_NW U ∧ va_D (fun _ => True) ws
def ct_B (D : va_G) (A : Nat → Prop) (f : (Nat → Nat) → va_W) (u : Nat → Nat) (t : State) : Prop := va_P D vwCl (f u) t.heap ∧ va_D A (f u)
theorem ct_blind {D : va_G} {cI cL : ClassId} {ws : va_W} {sz : Nat} {av : List Value} : FrameBlind (va_Pc av (ct_Pre D cI cL ws sz)) := by
  intro a U g mk q
  obtain ⟨q0, q1, qP, qK, qN, qD⟩ := q
  exact ⟨q0, q1, qP, va_K.moved (u := U) (U := U.calling g mk a) (Vm.Alike.refl U.vm) qK, fun w hw => va_Nw.same (u := U) (U := U.calling g mk a) (kk_isN_on (List.mem_filter.mp hw).2) rfl (qN w hw), qD⟩
theorem ct_NW {s U : State} (h : kk_NW s) (hW : s.WarmedH U.vm) : kk_NW U := fun w hw => kk_isN_warm (List.mem_filter.mp hw).2 hW (h w hw)
def ct_C (D : va_G) (cI cL : ClassId) (own : String) (cc : ByteArray) (nL : Nat) (A : Nat → Prop) (p : Program) (s : State) (m : MethodId) (args : Array Value) (meth : Method) (c : Code) : Prop :=
  p.tables.exec = Jvm.exec ∧ c.code = cc ∧ meth.sig.returnType = none ∧ c.maxLocals = nL ∧ s.vm.findClass own = some m.cls ∧ (∀ w ∈ kk_good, w.before args s = true) ∧ meth.locks = false ∧ va_K D vwCl (ct_tys cI cL) s ∧ kk_NW s ∧ meth.name = "<init>" ∧ (∀ q, s.heap.size ≤ q → A q)
def CK (l : Launch) (D : va_G) (cI cL : ClassId) (own : String) (cc : ByteArray) (nL : Nat) (R : Room) (A : Nat → Prop) (Qc : Array Value → State → Outcome → State → Prop) (mc ms pc : Nat) (lv : List (Nat × Value)) (st : List Value) (ws : va_W) (cells slots : Nat) : Prop :=
  ∀ (p : Program) (e : Env) (s : State) (m : MethodId) (args : Array Value) (below : List Frame) (meth : Method) (c : Code), ct_C D cI cL own cc nL A p s m args meth c → ∀ (H : Heap) (locs : List Loc) (ls : Array Slot), va_P D vwCl ws H → va_D A ws → va_S A s.heap H locs → lv_has ls nL lv →
    W p l e R s m args below meth c H locs cells slots (MQ below Qc args s mc ms A) (F0 m pc ls st)
section
variable {l : Launch} {D : va_G} {cI cL : ClassId} {own : String} {cc : ByteArray} {nL : Nat} {R : Room} {A : Nat → Prop} {Qc : Array Value → State → Outcome → State → Prop} {mc ms pc b : Nat} {lv : List (Nat × Value)} {st : List Value} {ws ws' : va_W} {cells slots cells' slots' : Nat}
theorem ck_aload_n {q : Fin 4} {x : Nat} (j : Nat) (hj : lv[j]? = some ((q : Nat), .ref x)) (hd : kk_d cc pc (.aload_n q) 1 b) (k : CK l D cI cL own cc nL R A Qc mc ms b lv (.ref x :: st) ws cells slots) : CK l D cI cL own cc nL R A Qc mc ms pc lv st ws cells slots := by
  obtain ⟨hd, rfl⟩ := hd
  intro p e s m args below meth c C H locs ls hP hD hS hl
  exact lv_aload_n C.1 C.2.1 hd rfl (lv_at hl j hj) (k p e s m args below meth c C H locs ls hP hD hS hl)
theorem ck_iconst {n : Int} {v : Int32} (hv : Int32.ofInt n = v) (hd : kk_d cc pc (.iconst n) 1 b) (k : CK l D cI cL own cc nL R A Qc mc ms b lv (.int v :: st) ws cells slots) : CK l D cI cL own cc nL R A Qc mc ms pc lv st ws cells slots := by
  obtain ⟨hd, rfl⟩ := hd
  intro p e s m args below meth c C H locs ls hP hD hS hl
  exact lv_iconst C.1 C.2.1 hd hv (k p e s m args below meth c C H locs ls hP hD hS hl)
theorem ck_bipush {n : Int} {v : Int32} (hv : (Int8.ofInt n).toInt32 = v) (hd : kk_d cc pc (.bipush n) 2 b) (k : CK l D cI cL own cc nL R A Qc mc ms b lv (.int v :: st) ws cells slots) : CK l D cI cL own cc nL R A Qc mc ms pc lv st ws cells slots := by
  obtain ⟨hd, rfl⟩ := hd
  intro p e s m args below meth c C H locs ls hP hD hS hl
  exact lv_bipush C.1 C.2.1 hd hv (k p e s m args below meth c C H locs ls hP hD hS hl)
theorem ck_sipush {n : Int} {v : Int32} (hv : (Int16.ofInt n).toInt32 = v) (hd : kk_d cc pc (.sipush n) 3 b) (k : CK l D cI cL own cc nL R A Qc mc ms b lv (.int v :: st) ws cells slots) : CK l D cI cL own cc nL R A Qc mc ms pc lv st ws cells slots := by
  obtain ⟨hd, rfl⟩ := hd
  intro p e s m args below meth c C H locs ls hP hD hS hl
  exact lv_sipush C.1 C.2.1 hd hv (k p e s m args below meth c C H locs ls hP hD hS hl)
theorem ck_dup {va : Value} (hv : va.category = 1) (hd : kk_d cc pc .dup 1 b) (k : CK l D cI cL own cc nL R A Qc mc ms b lv (va :: va :: st) ws cells slots) : CK l D cI cL own cc nL R A Qc mc ms pc lv (va :: st) ws cells slots := by
  obtain ⟨hd, rfl⟩ := hd
  intro p e s m args below meth c C H locs ls hP hD hS hl
  exact lv_dup C.1 C.2.1 hd hv (k p e s m args below meth c C H locs ls hP hD hS hl)
theorem ck_objInit {idx : Nat} {a : Nat} (hd : kk_d cc pc (.invokespecial idx) 3 b) (hw1 : Cond.methodLink own idx Lib.objectInit ∈ kk_good) (hw2 : Cond.instanceMethod Lib.objectInit ∈ kk_good) (hw3 : Cond.code Lib.objectInit ⟨#[0xb1]⟩ 1 none ∈ kk_good) (hR : 1 ≤ R.frames ∧ (st.map fun v => v.category).sum + 12 ≤ R.locals) (k : CK l D cI cL own cc nL R A Qc mc ms b lv st ws cells slots) : CK l D cI cL own cc nL R A Qc mc ms pc lv (.ref a :: st) ws cells slots := by
  obtain ⟨hd, rfl⟩ := hd
  intro p e s m args below meth c C H locs ls hP hD hS hl
  refine W.objInit C.1 C.2.1 C.2.2.2.2.1 (C.2.2.2.2.2.1 _ hw1) (C.2.2.2.2.2.1 _ hw2) (C.2.2.2.2.2.1 _ hw3) rfl (by rw [C.2.2.2.1]; exact hl.1) rfl hd hR.1 (by show 2 * 0 + _ + 12 ≤ _; omega) ?_
  exact k p e s m args below meth c C H locs ls hP hD hS hl
theorem ct_same {U : State} {ty : FieldType} {cA : ClassId} (i : Nat) {c : ClassId} (hi : (ct_tys cI cL)[i]? = some (c, ty)) (hty : ∀ C, ty ≠ .object C) (h : va_K D vwCl (ct_tys cI cL ++ [(cA, ty)]) U) : cA = c := by
  have h1 := (h.2 2 (cA, ty) rfl).2
  have h2 : va_RA U c ty := (h.2 i (c, ty) (by rw [List.getElem?_append_left (by exact (List.getElem?_eq_some_iff.mp hi).1)]; exact hi)).2
  cases ty with
  | object C => exact absurd rfl (hty C)
  | _ =>
    have e1 : U.vm.findClass _ = some cA := h1
    have e2 : U.vm.findClass _ = some c := h2
    exact Option.some.inj (e1.symm.trans e2)
theorem ck_newi {n : Int32} {N : Nat} (hd : kk_d cc pc (.newarray .int) 2 b) (hw : Cond.arrayClass .int ∈ kk_good) (hn : ¬ n < 0) (hN : n.toNatClampNeg = N) (hbytes : N * componentBytes .int ≤ 536870912) (hcells : cells + 1 ≤ R.cells) (hslots : slots + N ≤ R.slots)
    (k : ∀ q : Nat, CK l D cI cL own cc nL R A Qc mc ms b lv (.ref q :: st) (ws ++ [(q, .inl (cI, N, .inl (fun _ => 0)))]) (cells + 1) (slots + N)) : CK l D cI cL own cc nL R A Qc mc ms pc lv (.int n :: st) ws cells slots := by
  obtain ⟨hd, rfl⟩ := hd
  intro p e s m args below meth c C H locs ls hP hD hS hl
  refine va_newa (atype := .int) (a0 := (N, .inl (fun _ => 0))) C.1 C.2.1 (C.2.2.2.2.2.1 _ hw) (ty := .int) rfl C.2.2.2.2.2.2.2.1 hP hD hS C.2.2.2.2.2.2.2.2.2.2 (fun cA => rfl) hn hN hbytes hcells hslots hd (fun q cA H1 hK1 hP1 hD1 hS1 => ?_)
  obtain rfl := ct_same 0 rfl (fun C h => by cases h) hK1
  exact k q p e s m args below meth c C H1 locs ls hP1 hD1 hS1 hl
theorem ck_newl {n : Int32} {N : Nat} (hd : kk_d cc pc (.newarray .long) 2 b) (hw : Cond.arrayClass .long ∈ kk_good) (hn : ¬ n < 0) (hN : n.toNatClampNeg = N) (hbytes : N * componentBytes .long ≤ 536870912) (hcells : cells + 1 ≤ R.cells) (hslots : slots + N ≤ R.slots)
    (k : ∀ q : Nat, CK l D cI cL own cc nL R A Qc mc ms b lv (.ref q :: st) (ws ++ [(q, .inl (cL, N, .inr (.inl (fun _ => 0))))]) (cells + 1) (slots + N)) : CK l D cI cL own cc nL R A Qc mc ms pc lv (.int n :: st) ws cells slots := by
  obtain ⟨hd, rfl⟩ := hd
  intro p e s m args below meth c C H locs ls hP hD hS hl
  refine va_newa (atype := .long) (a0 := (N, .inr (.inl (fun _ => 0)))) C.1 C.2.1 (C.2.2.2.2.2.1 _ hw) (ty := .long) rfl C.2.2.2.2.2.2.2.1 hP hD hS C.2.2.2.2.2.2.2.2.2.2 (fun cA => rfl) hn hN hbytes hcells hslots hd (fun q cA H1 hK1 hP1 hD1 hS1 => ?_)
  obtain rfl := ct_same 1 rfl (fun C h => by cases h) hK1
  exact k q p e s m args below meth c C H1 locs ls hP1 hD1 hS1 hl
theorem ck_new {idx ci N : Nat} {C' : String} {T : u_T} {ty : Nat → FieldType} {fs : List Value} (hd : kk_d cc pc (.new idx) 3 b) (hc : vwCl[ci]? = some (C', T, N)) (hin : ∀ w ∈ u_ws C' T N, w ∈ kk_good) (hty : ∀ k, k < N → parseFieldDescriptor (T k).2.2.1 = some (ty k)) (hw1 : Cond.classLink own idx C' ∈ kk_good) (hw2 : Cond.instantiable C' N ∈ kk_good) (hw3 : Cond.initialized C' ∈ kk_good) (hfs : ∀ j, j < N → defaultValue (ty j) = vp_V fs j) (hcells : cells + 1 ≤ R.cells) (hslots : slots + N ≤ R.slots)
    (k : ∀ q : Nat, CK l D cI cL own cc nL R A Qc mc ms b lv (.ref q :: st) (ws ++ [(q, .inr (ci, fs))]) (cells + 1) (slots + N)) : CK l D cI cL own cc nL R A Qc mc ms pc lv st ws cells slots := by
  obtain ⟨hd, rfl⟩ := hd
  intro p e s m args below meth c C H locs ls hP hD hS hl
  exact va_new C.1 C.2.1 C.2.2.2.2.2.1 hin ty hty C.2.2.2.2.1 (C.2.2.2.2.2.1 _ hw1) (C.2.2.2.2.2.1 _ hw2) (C.2.2.2.2.2.1 _ hw3) C.2.2.2.2.2.2.2.1 hP hD hS C.2.2.2.2.2.2.2.2.2.2 hc hfs hcells hslots hd (fun q H1 hP1 hD1 hS1 => k q p e s m args below meth c C H1 locs ls hP1 hD1 hS1 hl)
theorem ck_get {idx ci j : Nat} {ty : FieldType} {fs : List Value} {a : Nat} {v : Value} (hd : kk_d cc pc (.getfield idx) 3 b) (hf : kk_FL own idx ci j ty) (q0 : Nat) (he : ws[q0]? = some (a, .inr (ci, fs))) (hv : fs[j]? = some v) (k : CK l D cI cL own cc nL R A Qc mc ms b lv (v :: st) ws cells slots) : CK l D cI cL own cc nL R A Qc mc ms pc lv (.ref a :: st) ws cells slots := by
  obtain ⟨hd, rfl⟩ := hd
  intro p e s m args below meth c C H locs ls hP hD hS hl
  obtain ⟨C', T, N, ty0, hc, hj, hin, hty, hnm, hTC, hdsc, hlink⟩ := hf
  rcases hlink with h | ⟨host, h⟩
  · exact va_get C.1 C.2.1 C.2.2.2.2.2.1 hin C.2.2.2.2.1 C.2.2.2.2.2.2.2.1 hP q0 he hc j hj (C.2.2.2.2.2.1 _ h) (fun _ h9 => by rw [hTC] at h9; exact h9) hv hd (k p e s m args below meth c C H locs ls hP hD hS hl)
  · exact va_getN C.1 C.2.1 C.2.2.2.2.2.1 hin C.2.2.2.2.1 C.2.2.2.2.2.2.2.1 hP q0 he hc j hj (va_Nw.use (kk_isN_on rfl) (C.2.2.2.2.2.2.2.2.1 _ h)) (fun _ h9 => by rw [hTC] at h9; exact h9) hv hd (k p e s m args below meth c C H locs ls hP hD hS hl)
def ct_FF (own : String) (ci j : Nat) : Prop := ∃ (C : String) (T : u_T) (N : Nat), vwCl[ci]? = some (C, T, N) ∧ (T j).2.2.2 = true ∧ (T j).1 = own
theorem ck_putF {idx ci j : Nat} {ty : FieldType} {fs : List Value} {a : Nat} {v : Value} (hd : kk_d cc pc (.putfield idx) 3 b) (hf : kk_FL own idx ci j ty) (hfin : ct_FF own ci j) (hlk : ∀ (C : String) (T : u_T) (N : Nat), vwCl[ci]? = some (C, T, N) → Cond.fieldLink own idx C (T j).2.1 (T j).2.2.1 ∈ kk_good) (hn : narrow ty v = v) (hfit : fits ty v = true) (q0 : Nat) (he : ws[q0]? = some (a, .inr (ci, fs))) (hl' : j < fs.length) (hws : ws.set q0 (a, .inr (ci, fs.set j v)) = ws') (k : CK l D cI cL own cc nL R A Qc mc ms b lv st ws' cells slots) : CK l D cI cL own cc nL R A Qc mc ms pc lv (v :: .ref a :: st) ws cells slots := by
  obtain ⟨hd, rfl⟩ := hd
  intro p e s m args below meth c C H locs ls hP hD hS hl
  obtain ⟨C', T, N, ty0, hc, hj, hin, hty, hnm, hTC, hdsc, hlink⟩ := hf
  obtain ⟨C2, T2, N2, hc2, hfn, hdcl⟩ := hfin
  obtain ⟨rfl, rfl, rfl⟩ : C' = C2 ∧ T = T2 ∧ N = N2 := by
    have h := hc.symm.trans hc2
    simp only [Option.some.injEq, Prod.mk.injEq] at h
    exact h
  refine va_putF C.1 C.2.1 C.2.2.2.2.2.1 hin ty0 hty hnm C.2.2.2.2.1 C.2.2.2.2.2.2.2.1 hP hD hS q0 he hc j hj (C.2.2.2.2.2.1 _ (hlk _ _ _ hc)) (fun _ h9 => by rw [hTC] at h9; exact h9) hfn C.2.2.2.2.2.2.2.2.2.1 hdcl hdsc hn hfit hl' hd (fun H1 locs1 hP1 hD1 hS1 => ?_)
  rw [hws] at hP1 hD1
  exact k p e s m args below meth c C H1 locs1 ls hP1 hD1 hS1 hl
theorem ck_put {idx ci j : Nat} {ty : FieldType} {fs : List Value} {a : Nat} {v : Value} (hd : kk_d cc pc (.putfield idx) 3 b) (hf : kk_FL own idx ci j ty) (hfin : kk_FN ci j) (hlk : ∀ (C : String) (T : u_T) (N : Nat), vwCl[ci]? = some (C, T, N) → Cond.fieldLink own idx C (T j).2.1 (T j).2.2.1 ∈ kk_good) (hn : narrow ty v = v) (hfit : fits ty v = true) (q0 : Nat) (he : ws[q0]? = some (a, .inr (ci, fs))) (hl' : j < fs.length) (hws : ws.set q0 (a, .inr (ci, fs.set j v)) = ws') (k : CK l D cI cL own cc nL R A Qc mc ms b lv st ws' cells slots) : CK l D cI cL own cc nL R A Qc mc ms pc lv (v :: .ref a :: st) ws cells slots := by
  obtain ⟨hd, rfl⟩ := hd
  intro p e s m args below meth c C H locs ls hP hD hS hl
  obtain ⟨C', T, N, ty0, hc, hj, hin, hty, hnm, hTC, hdsc, hlink⟩ := hf
  obtain ⟨C2, T2, N2, hc2, hfn⟩ := hfin
  obtain ⟨rfl, rfl, rfl⟩ : C' = C2 ∧ T = T2 ∧ N = N2 := by
    have h := hc.symm.trans hc2
    simp only [Option.some.injEq, Prod.mk.injEq] at h
    exact h
  refine va_put C.1 C.2.1 C.2.2.2.2.2.1 hin ty0 hty hnm C.2.2.2.2.1 C.2.2.2.2.2.2.2.1 hP hD hS q0 he hc j hj (C.2.2.2.2.2.1 _ (hlk _ _ _ hc)) (fun _ h9 => by rw [hTC] at h9; exact h9) hfn hdsc hn hfit hl' hd (fun H1 locs1 hP1 hD1 hS1 => ?_)
  rw [hws] at hP1 hD1
  exact k p e s m args below meth c C H1 locs1 ls hP1 hD1 hS1 hl
theorem ck_widen {k n : Nat} (h1 : cells ≤ k) (h2 : slots ≤ n) (kk : CK l D cI cL own cc nL R A Qc mc ms pc lv st ws k n) : CK l D cI cL own cc nL R A Qc mc ms pc lv st ws cells slots := by
  intro p e s m args below meth c C H locs ls hP hD hS hl
  exact W.widen h1 h2 (kk p e s m args below meth c C H locs ls hP hD hS hl)
theorem ck_eq (h : ws = ws') (kk : CK l D cI cL own cc nL R A Qc mc ms pc lv st ws' cells slots) : CK l D cI cL own cc nL R A Qc mc ms pc lv st ws cells slots := by rw [h]; exact kk
/-- a nested constructor: its contract -/
def ct_M (l : Launch) (D : va_G) (cI cL : ClassId) (y : MethodName) (cc : ByteArray) (nL : Nat) (R : Room) (h0 : Nat) (av : List Value) (o : va_E) (f : (Nat → Nat) → va_W) (mc ms : Nat) : Prop :=
  ∀ sz : Nat, Met l y (.code y cc nL none :: kk_good) R (va_Pc (.ref h0 :: av) (ct_Pre D cI cL [(h0, o)] sz)) (va_Qv (fun _ : Nat → Nat => True) (ct_B D (va_A [(h0, o)] sz) f) (va_A [(h0, o)] sz)) mc ms (va_A [(h0, o)] sz)
theorem ck_met {y : MethodName} {h0 : Nat} {av : List Value} {o : va_E} {f : (Nat → Nat) → va_W} (hy : plainName y.cls = true) (hnm : y.name = "<init>") (hown : y.cls = own) (hlen : (lg_sl (.ref h0 :: av)).length ≤ nL) (hlv : lv_args 0 (.ref h0 :: av) = lv)
    (k : ∀ sz : Nat, CK l D cI cL own cc nL R (va_A [(h0, o)] sz) (va_Qv (fun _ : Nat → Nat => True) (ct_B D (va_A [(h0, o)] sz) f) (va_A [(h0, o)] sz)) mc ms 0 lv [] [(h0, o)] 0 0) : ct_M l D cI cL y cc nL R h0 av o f mc ms := by
  intro sz
  refine Met.ofW (cc := cc) (maxL := nL) (ret := none) hy rfl ?_
  intro p e s m args below meth c s₁ B hml hv
  obtain ⟨rfl, hsz, hP, hK, hN, hD0⟩ := hv
  subst hsz
  have hts := atoms_spec (ws := .code y cc nL none :: kk_good) B.pre
  have hown' : s.vm.findClass own = some m.cls := by rw [← hown]; exact findClass_of_methodNamed B.named
  have hD := hD0.self (sz := s.heap.size)
  have hl := lv_entry (.ref h0 :: av) (n := nL) hlen
  rw [lg_entry_eq]
  generalize (lg_sl (.ref h0 :: av) ++ List.replicate (nL - (lg_sl (.ref h0 :: av)).length) Slot.unset).toArray = ls at hl ⊢
  rw [hlv] at hl
  exact k s.heap.size p e s m _ below meth c ⟨B.exec, B.bytes, B.returns, hml, hown', fun w hw => hts w (List.mem_cons_of_mem _ hw), B.notSynchronized, hK, hN, (name_of_methodNamed B.named B.method).1.trans hnm, fun q h => Or.inr h⟩ s.heap [] ls hP hD va_S.rf hl
theorem ck_vret {h0 sz : Nat} {o : va_E} {f : (Nat → Nat) → va_W} (u : Nat → Nat) (hd : kk_d cc pc .return_ 1 b) (hA : A = va_A [(h0, o)] sz) (ks : List Nat) (hnd : va_nd ks = true) (h1 : ks.map (fun i => ws[i]?) = (f u).map some) (h2 : ks.filterMap (fun i => ws[i]?) = f u) : CK l D cI cL own cc nL R A (va_Qv (fun _ : Nat → Nat => True) (ct_B D A f) A) cells slots pc lv [] ws cells slots := by
  obtain ⟨hd, rfl⟩ := hd
  intro p e s m args below meth c C H locs ls hP hD hS hl
  exact W.vret C.1 C.2.1 C.2.2.1 (fun t ht hW => ⟨⟨u, rfl, trivial, by show va_P D vwCl (f u) t.heap; rw [ht]; exact hP.sub ks h2, hD.sub ks hnd h1⟩, hS.F ht⟩) hS.2.2 hd C.2.2.2.2.2.2.1
/-- the link of a constructor that is called -/
def ct_ML (own : String) (idx : Nat) (y : MethodName) (cc : ByteArray) (nL : Nat) (n : Nat) : Prop :=
  Cond.code y cc nL none ∈ kk_good ∧ Cond.initialized y.cls ∈ kk_good ∧ (y.cls ≠ "java/lang/invoke/MethodHandle" ∧ y.cls ≠ "java/lang/invoke/VarHandle" ∧ (parseMethodDescriptor y.desc).map (fun d => d.parameters.length) = some n) ∧ y.name = "<init>" ∧ Cond.instanceMethod y ∈ kk_good ∧ (Cond.methodLink own idx y ∈ kk_good ∨ ∃ host, Cond.methodLinkNest own idx y host ∈ kk_nest)
theorem ck_init {y : MethodName} {cc' : ByteArray} {nL' : Nat} {R' : Room} {h0 : Nat} {av rest st0 : List Value} {o : va_E} {f : (Nat → Nat) → va_W} {mc' ms' idx n : Nat} (hd : kk_d cc pc (.invokespecial idx) 3 b) (hM : ct_M l D cI cL y cc' nL' R' h0 av o f mc' ms') (hml : ct_ML own idx y cc' nL' n) (hn : av.length = n) (hR : R'.cells = mc' ∧ R'.slots = ms' ∧ R'.frames + 1 ≤ R.frames ∧ 8 + (nL' + 11) + R'.locals ≤ R.locals ∧ cells + mc' ≤ R.cells ∧ slots + ms' ≤ R.slots) (hcat : (rest.map fun v => v.category).sum ≤ 8) (hst : st0 = av.reverse ++ .ref h0 :: rest)
    (i0 : Nat) (isR : List Nat) (wr : va_W) (hC : [i0].map (fun i => ws[i]?) = [(h0, o)].map some) (hRr : isR.map (fun i => ws[i]?) = wr.map some) (hnd : va_nd isR = true) (hdis : ∀ i ∈ isR, i ∉ [i0])
    (k : ∀ u : Nat → Nat, CK l D cI cL own cc nL R A Qc mc ms b lv rest (wr ++ f u) (cells + mc') (slots + ms')) : CK l D cI cL own cc nL R A Qc mc ms pc lv st0 ws cells slots := by
  obtain ⟨hd, rfl⟩ := hd
  intro p e s m args below meth c C H locs ls hP hD hS hl
  obtain ⟨hx, hb, hr, hmx, hown, hts, hlocks, hK, hN, hnm, hA⟩ := id C
  obtain ⟨hcode, hini, hdd, hyn, hinst, hlink⟩ := hml
  obtain ⟨r1, r2, r3, r4, r5, r6⟩ := hR
  have hPc : va_P D vwCl [(h0, o)] H := hP.sub [i0] (by
    have := hC
    simp only [List.map_cons, List.map_nil, List.cons.injEq, and_true] at this
    simp [this])
  have hDc : va_D A [(h0, o)] := hD.sub [i0] (by simp [va_nd]) hC
  have hFc := va_free (wc := [(h0, o)]) hD hS hA [i0] hC
  have hpre : PreS s H (va_Pc (.ref h0 :: av) (ct_Pre D cI cL [(h0, o)] H.size)) (.ref h0 :: av) :=
    ⟨ct_blind, fun U hU hW => ⟨rfl, by rw [hU], by rw [hU]; exact hPc, va_K.moved hW.alike hK, ct_NW hN hW, hDc.weaken (fun _ _ _ _ => trivial)⟩⟩
  have hrun : va_Run p l e R s m args below meth c H locs cells slots mc' ms' (F0 m pc ls st0) rest (va_Qv (fun _ : Nat → Nat => True) (ct_B D (va_A [(h0, o)] H.size) f) (va_A [(h0, o)] H.size) (Value.ref h0 :: av).toArray) (va_A [(h0, o)] H.size) := by
    rcases hlink with h | ⟨host, h⟩
    · exact va_runI ⟨hx, hb, hmx, hown, hts⟩ (hM H.size) ⟨callB_of n hts (kk_goodIn hcode) rfl r1 r2 (hts _ hini) (hts _ h) hdd ⟨r3, r4⟩, hyn, hts _ hinst⟩ hpre rfl hn hl.1 hst (lv_room hcat) hd ⟨r5, r6⟩
    · exact va_runIN ⟨hx, hb, hmx, hown, hts⟩ (hM H.size) ⟨va_cnB n hts (kk_goodIn hcode) rfl r1 r2 (hN _ h) (hts _ hini) hdd ⟨r3, r4⟩, hyn, hts _ hinst⟩ hpre rfl hn hl.1 hst (lv_room hcat) hd ⟨r5, r6⟩
  refine va_callv hrun hS (fun q _ h => hFc q h) hFc (fun u t H1 locs1 ht hvm _ hB hz1 hk1 hS1 => ?_)
  obtain ⟨hP1, hD1⟩ := hB
  rw [ht] at hP1
  obtain ⟨hP2, hD2⟩ := va_join (wr := wr) (w1 := f u) hP hD [i0] isR hC hRr hnd hdis hk1 hFc hP1 hD1
  exact k u p e s m args below meth c C H1 locs1 ls hP2 hD2 hS1 hl
/-- a static method of a world of fixed shape, called over one part of a growing world -/
theorem ck_callSv {Z : kk_Z} {sh : List kk_Sh} {σ : kk_St} {y : MethodName} {cc' : ByteArray} {nL' : Nat} {R' : Room} {As rest st0 : List Value} {Q : kk_St → Prop} {idx n : Nat} (hZ : Z.1 = l ∧ Z.2.2.1 = D ∧ Z.2.2.2.1 = cI ∧ Z.2.2.2.2 = cL) (hd : kk_d cc pc (.invokestatic idx) 3 b) (hM : kk_M Z sh y cc' nL' none R' As σ (kk_Qv Z sh Q)) (hml : kk_ML own idx y cc' nL' none n true) (hn : As.length = n) (hR : kk_fit nL' R' R) (hcl : cells ≤ R.cells ∧ slots ≤ R.slots) (hcat : (rest.map fun v => v.category).sum ≤ 8) (hst : st0 = As.reverse ++ rest) (hinj : kk_inj Z sh)
    (isC isR : List Nat) (wr : va_W) (hC : isC.map (fun i => ws[i]?) = (kk_ws Z sh σ).map some) (hC2 : isC.filterMap (fun i => ws[i]?) = kk_ws Z sh σ) (hRr : isR.map (fun i => ws[i]?) = wr.map some) (hnd : va_nd isR = true) (hdis : ∀ i ∈ isR, i ∉ isC)
    (k : ∀ σ' : kk_St, Q σ' → CK l D cI cL own cc nL R A Qc mc ms b lv rest (wr ++ kk_ws Z sh σ') cells slots) : CK l D cI cL own cc nL R A Qc mc ms pc lv st0 ws cells slots := by
  obtain ⟨hd, rfl⟩ := hd
  obtain ⟨rfl, rfl, rfl, rfl⟩ := hZ
  intro p e s m args below meth c C H locs ls hP hD hS hl
  obtain ⟨hx, hb, hr, hmx, hown, hts, hlocks, hK, hN, hnm, hA⟩ := id C
  obtain ⟨hcode, hini, hdd, hstat, hlink⟩ := hml
  obtain ⟨r1, r2, r3, r4⟩ := hR
  have hPc : va_P Z.2.2.1 vwCl (kk_ws Z sh σ) H := hP.sub isC hC2
  have hFc := va_free (wc := kk_ws Z sh σ) hD hS hA isC hC
  have hAA : ∀ q, kk_A Z sh H.size q ↔ va_A (kk_ws Z sh σ) H.size q := by
    intro q
    constructor
    · rintro (⟨k, h1, h2⟩ | h)
      · have h3 := kk_ws_get (Z := Z) (σ := σ) (List.getElem?_eq_getElem h1)
        have h4 := kk_ent_addr Z σ k sh[k]
        exact Or.inl ⟨k, (kk_ent Z σ k sh[k]).2, by rw [h3, h2, ← h4]⟩
      · exact Or.inr h
    · rintro (⟨k, e0, h⟩ | h)
      · obtain ⟨l1, a1⟩ := kk_ws_some h
        exact Or.inl ⟨k, l1, a1⟩
      · exact Or.inr h
  have hpre : PreS s H (va_Pc As (fun U => U.heap.size = H.size ∧ kk_P Z sh σ U.heap ∧ kk_K Z sh U)) As :=
    ⟨kk_blind, fun U hU hW => ⟨rfl, by rw [hU], by rw [hU]; exact hPc, va_K.moved hW.alike hK, ct_NW hN hW, hinj⟩⟩
  have hrun : va_Run p Z.1 e R s m args below meth c H locs cells slots 0 0 (F0 m pc ls st0) rest (kk_Qv Z sh Q (kk_A Z sh H.size) As.toArray) (kk_A Z sh H.size) := by
    rcases hlink with h | ⟨host, h⟩
    · exact va_runS ⟨hx, hb, hmx, hown, hts⟩ (hM H.size) ⟨callB_of n hts (kk_goodIn hcode) rfl r1 r2 (hts _ hini) (hts _ h) hdd ⟨r3, r4⟩, hts _ hstat⟩ hpre rfl hn hl.1 hst (lv_room hcat) hd hcl
    · exact va_runSN ⟨hx, hb, hmx, hown, hts⟩ (hM H.size) ⟨va_cnB n hts (kk_goodIn hcode) rfl r1 r2 (hN _ h) (hts _ hini) hdd ⟨r3, r4⟩, hts _ hstat, trivial⟩ hpre rfl hn hl.1 hst (lv_room hcat) hd hcl
  refine va_callv hrun hS (fun q _ h => hFc q ((hAA q).mp h)) (fun q h => hFc q ((hAA q).mp h)) (fun u t H1 locs1 ht hvm hQ hB hz1 hk1 hS1 => ?_)
  have hP1 : va_P Z.2.2.1 vwCl (kk_ws Z sh u) H1 := by rw [← ht]; exact hB
  have hD1 : va_D (va_A (kk_ws Z sh σ) H.size) (kk_ws Z sh u) := (kk_D u H.size hinj).weaken (fun k q _ h => (hAA q.1).mp h)
  obtain ⟨hP2, hD2⟩ := va_join (wr := wr) (w1 := kk_ws Z sh u) hP hD isC isR hC hRr hnd hdis (fun q h1 h2 => hk1 q h1 (fun h3 => h2 ((hAA q).mp h3))) hFc hP1 hD1
  exact k u hQ p e s m args below meth c C H1 locs1 ls hP2 hD2 hS1 hl
end
