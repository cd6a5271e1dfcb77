/-! the layer of this claim: worlds of a fixed shape; KK: a method's body at a pc; kk_M: a method's contract -/
abbrev kk_St : Type := (Nat → Nat → Int32) × (Nat → Int64)
abbrev kk_Fd : Type := Option Nat
abbrev kk_Sh : Type := (Bool × Nat) ⊕ (Nat × List kk_Fd)
abbrev kk_Z : Type := Launch × (Nat → Nat) × va_G × ClassId × ClassId
def kk_fv (q : Nat → Nat) (f : Nat → Int32) (i : Nat) (d : kk_Fd) : Value := match d with
  | some j => .ref (q j)
  | none => .int (f i)
def kk_fvs (q : Nat → Nat) (f : Nat → Int32) : Nat → List kk_Fd → List Value
  | _, [] => []
  | i, d :: ds => kk_fv q f i d :: kk_fvs q f (i + 1) ds
def kk_ent (Z : kk_Z) (σ : kk_St) (k : Nat) (s : kk_Sh) : Nat × va_E := match s with
  | .inl (false, n) => (Z.2.1 k, .inl (Z.2.2.2.1, n, .inl (σ.1 k)))
  | .inl (true, n) => (Z.2.1 k, .inl (Z.2.2.2.2, n, .inr (.inl σ.2)))
  | .inr (ci, fs) => (Z.2.1 k, .inr (ci, kk_fvs Z.2.1 (σ.1 k) 0 fs))
def kk_ws (Z : kk_Z) (sh : List kk_Sh) (σ : kk_St) : va_W := sh.mapIdx (fun k s => kk_ent Z σ k s)
def kk_wr (σ : kk_St) (k i : Nat) (x : Int32) : kk_St := (fun c => if c = k then upd (σ.1 k) i x else σ.1 c, σ.2)
def kk_wrL (σ : kk_St) (i : Nat) (x : Int64) : kk_St := (σ.1, vp_updL σ.2 i x)
def kk_wrF (σ : kk_St) (k : Nat) (f : Nat → Int32) : kk_St := (fun c => if c = k then f else σ.1 c, σ.2)
abbrev kk_rd (σ : kk_St) (k : Nat) (i : Int32) : Int32 := σ.1 k i.toNatClampNeg
theorem kk_fvs_get (q : Nat → Nat) (f : Nat → Int32) : ∀ (fs : List kk_Fd) (i j : Nat), (kk_fvs q f i fs)[j]? = (fs[j]?).map (kk_fv q f (i + j))
  | [], i, j => by simp [kk_fvs]
  | d :: ds, i, 0 => by simp [kk_fvs]
  | d :: ds, i, j + 1 => by
    simp only [kk_fvs, List.getElem?_cons_succ]
    rw [kk_fvs_get q f ds (i + 1) j]
    congr 2
    omega
theorem kk_fvs_len (q : Nat → Nat) (f : Nat → Int32) : ∀ (fs : List kk_Fd) (i : Nat), (kk_fvs q f i fs).length = fs.length
  | [], i => rfl
  | d :: ds, i => by simp [kk_fvs, kk_fvs_len q f ds (i + 1)]
theorem kk_fvs_set (q : Nat → Nat) (f : Nat → Int32) {fs : List kk_Fd} {j : Nat} (x : Int32) (h : fs[j]? = some none) : (kk_fvs q f 0 fs).set j (.int x) = kk_fvs q (upd f j x) 0 fs := by
  apply List.ext_getElem?
  intro t
  rw [kk_fvs_get]
  by_cases ht : j = t
  · subst ht
    have hl : j < (kk_fvs q f 0 fs).length := by rw [kk_fvs_len]; exact (List.getElem?_eq_some_iff.mp h).1
    rw [List.getElem?_set_self hl, h]
    simp [kk_fv, upd]
  · rw [List.getElem?_set_ne ht, kk_fvs_get]
    cases fs[t]? with
    | none => rfl
    | some d =>
      cases d with
      | none => simp [kk_fv, upd, Ne.symm ht]
      | some c => rfl
theorem kk_ws_get {Z : kk_Z} {sh : List kk_Sh} {σ : kk_St} {k : Nat} {s : kk_Sh} (h : sh[k]? = some s) : (kk_ws Z sh σ)[k]? = some (kk_ent Z σ k s) := by
  simp [kk_ws, List.getElem?_mapIdx, h]
theorem kk_ws_len {Z : kk_Z} {sh : List kk_Sh} {σ : kk_St} : (kk_ws Z sh σ).length = sh.length := by simp [kk_ws]
theorem kk_ws_setA {Z : kk_Z} {sh : List kk_Sh} {σ : kk_St} {k n : Nat} (h : sh[k]? = some (.inl (false, n))) (f : Nat → Int32) : (kk_ws Z sh σ).set k (Z.2.1 k, .inl (Z.2.2.2.1, n, .inl f)) = kk_ws Z sh (kk_wrF σ k f) := by
  apply List.ext_getElem?
  intro t
  by_cases ht : k = t
  · subst ht
    have hl : k < (kk_ws Z sh σ).length := by rw [kk_ws_len]; exact (List.getElem?_eq_some_iff.mp h).1
    rw [List.getElem?_set_self hl, kk_ws_get h]
    simp [kk_ent, kk_wrF]
  · rw [List.getElem?_set_ne ht]
    simp only [kk_ws, List.getElem?_mapIdx]
    cases sh[t]? with
    | none => rfl
    | some s => simp [kk_ent, kk_wrF, Ne.symm ht]
theorem kk_wr_F (σ : kk_St) (k i : Nat) (x : Int32) : kk_wrF σ k (upd (σ.1 k) i x) = kk_wr σ k i x := rfl
theorem kk_ws_setL {Z : kk_Z} {sh : List kk_Sh} {σ : kk_St} {k n : Nat} (h : sh[k]? = some (.inl (true, n))) (hu : ∀ t m, sh[t]? = some (.inl (true, m)) → t = k) (f : Nat → Int64) : (kk_ws Z sh σ).set k (Z.2.1 k, .inl (Z.2.2.2.2, n, .inr (.inl f))) = kk_ws Z sh (σ.1, f) := by
  apply List.ext_getElem?
  intro t
  by_cases ht : k = t
  · subst ht
    have hl : k < (kk_ws Z sh σ).length := by rw [kk_ws_len]; exact (List.getElem?_eq_some_iff.mp h).1
    rw [List.getElem?_set_self hl, kk_ws_get h]
    simp [kk_ent]
  · rw [List.getElem?_set_ne ht]
    simp only [kk_ws, List.getElem?_mapIdx]
    cases hs : sh[t]? with
    | none => rfl
    | some s =>
      rcases s with ⟨b, m⟩ | ⟨ci, fs⟩
      · cases b with
        | true => exact absurd (hu t m hs).symm ht
        | false => rfl
      · rfl
theorem kk_ws_setO {Z : kk_Z} {sh : List kk_Sh} {σ : kk_St} {k ci j : Nat} {fs : List kk_Fd} (h : sh[k]? = some (.inr (ci, fs))) (hj : fs[j]? = some none) (x : Int32) : (kk_ws Z sh σ).set k (Z.2.1 k, .inr (ci, (kk_fvs Z.2.1 (σ.1 k) 0 fs).set j (.int x))) = kk_ws Z sh (kk_wr σ k j x) := by
  apply List.ext_getElem?
  intro t
  by_cases ht : k = t
  · subst ht
    have hl : k < (kk_ws Z sh σ).length := by rw [kk_ws_len]; exact (List.getElem?_eq_some_iff.mp h).1
    rw [List.getElem?_set_self hl, kk_ws_get h, kk_fvs_set _ _ _ hj]
    simp [kk_ent, kk_wr]
  · rw [List.getElem?_set_ne ht]
    simp only [kk_ws, List.getElem?_mapIdx]
    cases sh[t]? with
    | none => rfl
    | some s => simp [kk_ent, kk_wr, Ne.symm ht]
def kk_isN (w : Cond) : Bool := match w with
  | .fieldLinkNest _ _ _ _ _ _ => true
  | .methodLinkNest _ _ _ _ => true
  | _ => false
def kk_good : List Cond := lw_tbl.filter goodWord
def kk_nest : List Cond := lw_tbl.filter kk_isN
theorem kk_gm {w : Cond} (i : Nat) (h : lw_tbl[i]? = some w) (hg : goodWord w = true) : w ∈ kk_good := List.mem_filter.mpr ⟨List.mem_of_getElem? h, hg⟩
theorem kk_nm {w : Cond} (i : Nat) (h : lw_tbl[i]? = some w) (hg : kk_isN w = true) : w ∈ kk_nest := List.mem_filter.mpr ⟨List.mem_of_getElem? h, hg⟩
theorem kk_gall {ws : List Cond} (h : ws.all (fun w => decide (w ∈ lw_tbl) && goodWord w) = true) : ∀ w ∈ ws, w ∈ kk_good := by
  intro w hw
  have h1 := List.all_eq_true.mp h w hw
  simp only [Bool.and_eq_true, decide_eq_true_eq] at h1
  exact List.mem_filter.mpr h1
theorem kk_isN_on {w : Cond} (h : kk_isN w = true) : w.onTables = true := by
  unfold kk_isN at h
  split at h
  · rfl
  · rfl
  · cases h
theorem kk_isN_warm {w : Cond} (h : kk_isN w = true) {s U : State} (hW : s.WarmedH U.vm) (hZ : va_Nw w s) : va_Nw w U := by
  unfold kk_isN at h
  split at h
  · exact va_Nw.warmF hW hZ
  · exact va_Nw.warmM hW hZ
  · cases h
def kk_NW (U : State) : Prop := ∀ w ∈ kk_nest, va_Nw w U
def kk_tys (Z : kk_Z) : List (ClassId × FieldType) := [(Z.2.2.2.1, .int), (Z.2.2.2.2, .long)]
def kk_P (Z : kk_Z) (sh : List kk_Sh) (σ : kk_St) (H : Heap) : Prop := va_P Z.2.2.1 vwCl (kk_ws Z sh σ) H
def kk_inj (Z : kk_Z) (sh : List kk_Sh) : Prop := ∀ i j, i < sh.length → j < sh.length → Z.2.1 i = Z.2.1 j → i = j
def kk_K (Z : kk_Z) (sh : List kk_Sh) (U : State) : Prop := va_K Z.2.2.1 vwCl (kk_tys Z) U ∧ kk_NW U ∧ kk_inj Z sh
def kk_A (Z : kk_Z) (sh : List kk_Sh) (sz : Nat) : Nat → Prop := fun a => (∃ k, k < sh.length ∧ a = Z.2.1 k) ∨ sz ≤ a
theorem kk_ent_addr (Z : kk_Z) (σ : kk_St) (k : Nat) (s : kk_Sh) : (kk_ent Z σ k s).1 = Z.2.1 k := by
  rcases s with ⟨b, m⟩ | ⟨ci, fs⟩
  · cases b <;> rfl
  · rfl
theorem kk_ws_some {Z : kk_Z} {sh : List kk_Sh} {σ : kk_St} {k : Nat} {q : Nat × va_E} (h : (kk_ws Z sh σ)[k]? = some q) : k < sh.length ∧ q.1 = Z.2.1 k := by
  have hl := (List.getElem?_eq_some_iff.mp h).1
  rw [kk_ws_len] at hl
  refine ⟨hl, ?_⟩
  rw [kk_ws_get (List.getElem?_eq_getElem hl)] at h
  obtain rfl := Option.some.inj h
  exact kk_ent_addr _ _ _ _
theorem kk_D {Z : kk_Z} {sh : List kk_Sh} (σ : kk_St) (sz : Nat) (h : kk_inj Z sh) : va_D (kk_A Z sh sz) (kk_ws Z sh σ) := by
  refine ⟨fun i j p q hi hj hpq => ?_, fun k q hk => ?_⟩
  · obtain ⟨l1, a1⟩ := kk_ws_some hi
    obtain ⟨l2, a2⟩ := kk_ws_some hj
    exact h i j l1 l2 (by rw [← a1, ← a2]; exact hpq)
  · obtain ⟨l1, a1⟩ := kk_ws_some hk
    exact Or.inl ⟨k, l1, a1⟩
/-- what holds all through a method's body -/
def kk_C (Z : kk_Z) (sh : List kk_Sh) (own : String) (cc : ByteArray) (nL : Nat) (ret : Option FieldType) (p : Program) (s : State) (m : MethodId) (args : Array Value) (meth : Method) (c : Code) : Prop :=
  p.tables.exec = Jvm.exec ∧ c.code = cc ∧ meth.sig.returnType = ret ∧ c.maxLocals = nL ∧ s.vm.findClass own = some m.cls ∧ (∀ w ∈ kk_good, w.before args s = true) ∧ meth.locks = false ∧ kk_K Z sh s
abbrev kk_Qt : Type := (Nat → Prop) → Array Value → State → Outcome → State → Prop
def KK (Z : kk_Z) (sh : List kk_Sh) (own : String) (cc : ByteArray) (nL : Nat) (ret : Option FieldType) (R : Room) (Qc : kk_Qt) (pc : Nat) (lv : List (Nat × Value)) (st : List Value) (σ : kk_St) : Prop :=
  ∀ (p : Program) (e : Env) (s : State) (m : MethodId) (args : Array Value) (below : List Frame) (meth : Method) (c : Code), kk_C Z sh own cc nL ret p s m args meth c → ∀ (H : Heap) (locs : List Loc) (ls : Array Slot), kk_P Z sh σ H → va_S (kk_A Z sh s.heap.size) s.heap H locs → lv_has ls nL lv →
    W p Z.1 e R s m args below meth c H locs 0 0 (MQ below (Qc (kk_A Z sh s.heap.size)) args s 0 0 (kk_A Z sh s.heap.size)) (F0 m pc ls st)
def kk_M (Z : kk_Z) (sh : List kk_Sh) (y : MethodName) (cc : ByteArray) (nL : Nat) (ret : Option FieldType) (R : Room) (av : List Value) (σ : kk_St) (Qc : kk_Qt) : Prop :=
  ∀ sz : Nat, Met Z.1 y (.code y cc nL ret :: kk_good) R (va_Pc av (fun U => U.heap.size = sz ∧ kk_P Z sh σ U.heap ∧ kk_K Z sh U)) (Qc (kk_A Z sh sz)) 0 0 (kk_A Z sh sz)
def kk_Qi (Z : kk_Z) (sh : List kk_Sh) (Q : Int32 → kk_St → Prop) : kk_Qt := fun A => va_Qi Q (fun σ t => kk_P Z sh σ t.heap) A
def kk_Ql (Z : kk_Z) (sh : List kk_Sh) (Q : Int64 → kk_St → Prop) : kk_Qt := fun A => va_Ql Q (fun σ t => kk_P Z sh σ t.heap) A
def kk_Qv (Z : kk_Z) (sh : List kk_Sh) (Q : kk_St → Prop) : kk_Qt := fun A => va_Qv Q (fun σ t => kk_P Z sh σ t.heap) A
def kk_R (d : Nat) : Room := { frames := d, cells := 0, slots := 0, locals := 64 * d }
/-- a row of the code -/
def kk_d (cc : ByteArray) (pc : Nat) (I : Instr) (n b : Nat) : Prop := decode cc pc = .ok (I, n) ∧ pc + n = b
def kk_dj (cc : ByteArray) (pc : Nat) (I : Instr) (n : Nat) (off : Int) (b tgt : Nat) : Prop := decode cc pc = .ok (I, n) ∧ pc + n = b ∧ (pc : Int) + off = (tgt : Int)
