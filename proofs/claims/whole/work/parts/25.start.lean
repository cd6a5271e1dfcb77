/-! the law's start: both objects are made -/
def σC0 : kk_St := (fun c => match c with
  | 1 => fun i => match i with
    | 5 => 1
    | _ => 0
  | 7 => fun i => match i with
    | 4 => -1
    | 6 => -1
    | 7 => -1
    | _ => 0
  | 10 => fun i => match i with
    | 5 => 1
    | _ => 0
  | 16 => fun _ => -1
  | _ => fun _ => 0, fun _ => 0)
def σM0 : kk_St := (fun c => match c with
  | 0 => fun i => match i with
    | 1 => 1
    | _ => 0
  | _ => fun _ => 0, fun _ => 0)
section
variable {p : Program} {l : Launch} {e : Env} {R : Room} {s : State} {m : MethodId} {args : Array Value} {below : List Frame} {meth : Method} {c : Code} {H : Heap} {locs : List Loc} {cells slots : Nat} {Q : State → Prop}
theorem w_init {D : va_G} {cI cL : ClassId} {A : Nat → Prop} {own : String} {cc cc' : ByteArray} {nL nL' pc : Nat} {ls : Array Slot} {lv : List (Nat × Value)} {y : MethodName} {R' : Room} {h0 : Nat} {av rest st0 : List Value} {o : va_E} {f : (Nat → Nat) → va_W} {mc' ms' idx n : Nat} {ws : va_W}
    (hx : p.tables.exec = Jvm.exec) (hb : c.code = cc) (hmx : c.maxLocals = nL) (hown : s.vm.findClass own = some m.cls) (hts : ∀ w ∈ kk_good, w.before args s = true) (hK : va_K D vwCl (ct_tys cI cL) s) (hN : kk_NW s) (hA : ∀ q, s.heap.size ≤ q → A q)
    (hP : va_P D vwCl ws H) (hD : va_D A ws) (hS : va_S A s.heap H locs) (hl : lv_has ls nL lv)
    (hd : decode cc pc = .ok (.invokespecial idx, 3)) (hM : ct_M l D cI cL y cc' nL' R' h0 av o f mc' ms') (hml : ct_ML own idx y cc' nL' n) (hn : av.length = n) (hR : R'.cells = mc' ∧ R'.slots = ms' ∧ R'.frames + 1 ≤ R.frames ∧ 8 + (nL' + 11) + R'.locals ≤ R.locals ∧ cells + mc' ≤ R.cells ∧ slots + ms' ≤ R.slots) (hcat : (rest.map fun v => v.category).sum ≤ 8) (hst : st0 = av.reverse ++ .ref h0 :: rest)
    (i0 : Nat) (isR : List Nat) (wr : va_W) (hC : [i0].map (fun i => ws[i]?) = [(h0, o)].map some) (hRr : isR.map (fun i => ws[i]?) = wr.map some) (hnd : va_nd isR = true) (hdis : ∀ i ∈ isR, i ∉ [i0])
    (k : ∀ (u : Nat → Nat) (H1 : Heap) (locs1 : List Loc), va_P D vwCl (wr ++ f u) H1 → va_D A (wr ++ f u) → va_S A s.heap H1 locs1 → W p l e R s m args below meth c H1 locs1 (cells + mc') (slots + ms') Q (F0 m (pc + 3) ls rest)) : W p l e R s m args below meth c H locs cells slots Q (F0 m pc ls st0) := by
  obtain ⟨hcode, hini, hdd, hyn, hinst, hlink⟩ := hml
  obtain ⟨r1, r2, r3, r4, r5, r6⟩ := hR
  have hPc : va_P D vwCl [(h0, o)] H := hP.sub [i0] (by
    have := hC
    simp only [List.map_cons, List.map_nil, List.cons.injEq, and_true] at this
    simp [this])
  have hDc : va_D A [(h0, o)] := hD.sub [i0] (by simp [va_nd]) hC
  have hFc := va_free (wc := [(h0, o)]) hD hS hA [i0] hC
  have hpre : PreS s H (va_Pc (.ref h0 :: av) (ct_Pre D cI cL [(h0, o)] H.size)) (.ref h0 :: av) :=
    ⟨ct_blind, fun U hU hW => ⟨rfl, by rw [hU], by rw [hU]; exact hPc, va_K.moved hW.alike hK, ct_NW hN hW, hDc.weaken (fun _ _ _ _ => trivial)⟩⟩
  have hrun : va_Run p l e R s m args below meth c H locs cells slots mc' ms' (F0 m pc ls st0) rest (va_Qv (fun _ : Nat → Nat => True) (ct_B D (va_A [(h0, o)] H.size) f) (va_A [(h0, o)] H.size) (Value.ref h0 :: av).toArray) (va_A [(h0, o)] H.size) := by
    rcases hlink with h | ⟨host, h⟩
    · exact va_runI ⟨hx, hb, hmx, hown, hts⟩ (hM H.size) ⟨callB_of n hts (kk_goodIn hcode) rfl r1 r2 (hts _ hini) (hts _ h) hdd ⟨r3, r4⟩, hyn, hts _ hinst⟩ hpre rfl hn hl.1 hst (lv_room hcat) hd ⟨r5, r6⟩
    · exact va_runIN ⟨hx, hb, hmx, hown, hts⟩ (hM H.size) ⟨va_cnB n hts (kk_goodIn hcode) rfl r1 r2 (hN _ h) (hts _ hini) hdd ⟨r3, r4⟩, hyn, hts _ hinst⟩ hpre rfl hn hl.1 hst (lv_room hcat) hd ⟨r5, r6⟩
  refine va_callv hrun hS (fun q _ h => hFc q h) hFc (fun u t H1 locs1 ht hvm _ hB hz1 hk1 hS1 => ?_)
  obtain ⟨hP1, hD1⟩ := hB
  rw [ht] at hP1
  obtain ⟨hP2, hD2⟩ := va_join (wr := wr) (w1 := f u) hP hD [i0] isR hC hRr hnd hdis hk1 hFc hP1 hD1
  exact k u H1 locs1 hP2 hD2 hS1
end
theorem lw_arr {args : Array Value} {s : State} {ty : FieldType} (hty : ∀ C, ty ≠ .object C) (h : (Cond.arrayClass ty).before args s = true) : ∃ cA : ClassId, ArrOfT s cA ty ∧ va_RA s cA ty := by
  obtain ⟨c, k, comp, h1, h2, h3⟩ := Cond.arrayClass_spec h
  refine ⟨c, fun n z => ⟨fun k h => (by cases h), k, h2, comp, h3⟩, ?_⟩
  cases ty with
  | object C => exact absurd rfl (hty C)
  | _ => exact h1
theorem lw_inj {Z1 Z2 : kk_Z} {A : Nat → Prop} {σ1 σ2 : kk_St} (hD : va_D A (kk_ws Z1 sh_C σ1 ++ kk_ws Z2 sh_M σ2)) :
    kk_inj Z1 sh_C ∧ kk_inj Z2 sh_M ∧ (∀ i, i < sh_C.length → A (Z1.2.1 i)) ∧ (∀ i, i < sh_M.length → A (Z2.2.1 i)) ∧ ∀ i j, i < sh_C.length → j < sh_M.length → Z1.2.1 i ≠ Z2.2.1 j := by
  have g1 : ∀ i, (h : i < sh_C.length) → (kk_ws Z1 sh_C σ1 ++ kk_ws Z2 sh_M σ2)[i]? = some (kk_ent Z1 σ1 i sh_C[i]) := fun i h => by
    rw [List.getElem?_append_left (by rw [kk_ws_len]; exact h)]
    exact kk_ws_get (List.getElem?_eq_getElem h)
  have g2 : ∀ i, (h : i < sh_M.length) → (kk_ws Z1 sh_C σ1 ++ kk_ws Z2 sh_M σ2)[sh_C.length + i]? = some (kk_ent Z2 σ2 i sh_M[i]) := fun i h => by
    rw [List.getElem?_append_right (by rw [kk_ws_len]; omega), kk_ws_len, Nat.add_sub_cancel_left]
    exact kk_ws_get (List.getElem?_eq_getElem h)
  refine ⟨fun i j hi hj h => ?_, fun i j hi hj h => ?_, fun i hi => ?_, fun i hi => ?_, fun i j hi hj h => ?_⟩
  · exact hD.1 i j _ _ (g1 i hi) (g1 j hj) (by rw [kk_ent_addr, kk_ent_addr]; exact h)
  · have := hD.1 _ _ _ _ (g2 i hi) (g2 j hj) (by rw [kk_ent_addr, kk_ent_addr]; exact h)
    omega
  · have := hD.2 _ _ (g1 i hi)
    rw [kk_ent_addr] at this
    exact this
  · have := hD.2 _ _ (g2 i hi)
    rw [kk_ent_addr] at this
    exact this
  · have := hD.1 _ _ _ _ (g1 i hi) (g2 j hj) (by rw [kk_ent_addr, kk_ent_addr]; exact h)
    omega
theorem va_nd_range' : ∀ (n s : Nat), va_nd (List.range' s n) = true
  | 0, s => rfl
  | n + 1, s => by
    rw [List.range'_succ]
    simp only [va_nd, Bool.and_eq_true, decide_eq_true_eq]
    exact ⟨fun h => by have := (List.mem_range'_1.mp h).1; omega, va_nd_range' n (s + 1)⟩
theorem va_nd_range (n : Nat) : va_nd (List.range n) = true := by rw [List.range_eq_range']; exact va_nd_range' n 0
theorem st_map {w : va_W} {x : Nat × va_E} : (List.range w.length).map (fun i => (w ++ [x])[i]?) = w.map some := by
  apply List.ext_getElem?
  intro i
  by_cases h : i < w.length
  · simp [h]
    rw [List.getElem?_append_left h]
    exact List.getElem?_eq_getElem h
  · simp [h]
section
variable {p : Program} {l : Launch} {e : Env} {R : Room} {s : State} {m : MethodId} {args : Array Value} {below : List Frame} {meth : Method} {c : Code} {H : Heap} {locs : List Loc} {cells slots : Nat} {Q : State → Prop}
theorem w_initL {D : va_G} {cI cL : ClassId} {A : Nat → Prop} {own : String} {cc cc' : ByteArray} {nL nL' pc : Nat} {ls : Array Slot} {lv : List (Nat × Value)} {y : MethodName} {R' : Room} {h0 : Nat} {av rest st0 : List Value} {o : va_E} {f : (Nat → Nat) → va_W} {mc' ms' idx n : Nat} {w : va_W}
    (hx : p.tables.exec = Jvm.exec) (hb : c.code = cc) (hmx : c.maxLocals = nL) (hown : s.vm.findClass own = some m.cls) (hts : ∀ w ∈ kk_good, w.before args s = true) (hK : va_K D vwCl (ct_tys cI cL) s) (hN : kk_NW s) (hA : ∀ q, s.heap.size ≤ q → A q)
    (hP : va_P D vwCl (w ++ [(h0, o)]) H) (hD : va_D A (w ++ [(h0, o)])) (hS : va_S A s.heap H locs) (hl : lv_has ls nL lv)
    (hd : decode cc pc = .ok (.invokespecial idx, 3)) (hM : ct_M l D cI cL y cc' nL' R' h0 av o f mc' ms') (hml : ct_ML own idx y cc' nL' n) (hn : av.length = n) (hR : R'.cells = mc' ∧ R'.slots = ms' ∧ R'.frames + 1 ≤ R.frames ∧ 8 + (nL' + 11) + R'.locals ≤ R.locals ∧ cells + mc' ≤ R.cells ∧ slots + ms' ≤ R.slots) (hcat : (rest.map fun v => v.category).sum ≤ 8) (hst : st0 = av.reverse ++ .ref h0 :: rest)
    (k : ∀ (u : Nat → Nat) (H1 : Heap) (locs1 : List Loc), va_P D vwCl (w ++ f u) H1 → va_D A (w ++ f u) → va_S A s.heap H1 locs1 → W p l e R s m args below meth c H1 locs1 (cells + mc') (slots + ms') Q (F0 m (pc + 3) ls rest)) : W p l e R s m args below meth c H locs cells slots Q (F0 m pc ls st0) :=
  w_init hx hb hmx hown hts hK hN hA hP hD hS hl hd hM hml hn hR hcat hst w.length (List.range w.length) w (by simp) st_map (va_nd_range _) (fun i hi h => by simp at h; have := List.mem_range.mp hi; omega) k
end
theorem kk_P_of {Z : kk_Z} {sh : List kk_Sh} {σ : kk_St} {H : Heap} (h : ∀ k s, sh[k]? = some s → va_at Z.2.2.1 vwCl (kk_ent Z σ k s) H) : kk_P Z sh σ H := by
  intro k q hq
  have hl := (List.getElem?_eq_some_iff.mp hq).1
  rw [kk_ws_len] at hl
  have h1 := kk_ws_get (Z := Z) (σ := σ) (List.getElem?_eq_getElem hl)
  rw [h1] at hq
  obtain rfl := Option.some.inj hq
  exact h k _ (List.getElem?_eq_getElem hl)
theorem st_inj {A : Nat → Prop} {ws : va_W} (hD : va_D A ws) {n : Nat} {q : Nat → Nat} {pos : List Nat} (hn : pos.length = n) (hp : va_nd pos = true) (h : ∀ k, k < n → ∃ x, pos[k]? = some x ∧ ∃ e, ws[x]? = some (q k, e)) : (∀ i j, i < n → j < n → q i = q j → i = j) ∧ ∀ i, i < n → A (q i) := by
  refine ⟨fun i j hi hj hq => ?_, fun i hi => ?_⟩
  · obtain ⟨x, h1, e1, h2⟩ := h i hi
    obtain ⟨y, h3, e2, h4⟩ := h j hj
    have hxy := hD.1 x y _ _ h2 h4 hq
    subst hxy
    exact va_nd_inj pos hp i j x h1 h3
  · obtain ⟨x, h1, e1, h2⟩ := h i hi
    exact hD.2 x _ h2
def qC (q0 : Nat) (u : Nat → Nat) (k : Nat) : Nat := match k with
  | 0 => q0
  | 1 => (u 0)
  | 2 => (u 6)
  | 3 => (u 9)
  | 4 => (u 11)
  | 5 => (u 13)
  | 6 => (u 14)
  | 7 => (u 15)
  | 8 => (u 19)
  | 9 => (u 22)
  | 10 => (u 25)
  | 11 => (u 1)
  | 12 => (u 2)
  | 13 => (u 3)
  | 14 => (u 4)
  | 15 => (u 5)
  | 16 => (u 8)
  | 17 => (u 7)
  | 18 => (u 10)
  | 19 => (u 12)
  | 20 => (u 16)
  | 21 => (u 17)
  | 22 => (u 18)
  | 23 => (u 20)
  | 24 => (u 21)
  | 25 => (u 23)
  | 26 => (u 24)
  | 27 => (u 26)
  | 28 => (u 27)
  | 29 => (u 28)
  | 30 => (u 29)
  | 31 => (u 30)
  | _ => (u 31)
def qM (q1 : Nat) (v : Nat → Nat) (k : Nat) : Nat := match k with
  | 0 => q1
  | 1 => (v 0)
  | 2 => (v 1)
  | 3 => (v 2)
  | 4 => (v 3)
  | 5 => (v 4)
  | 6 => (v 5)
  | 7 => (v 6)
  | 8 => (v 7)
  | 9 => (v 8)
  | 10 => (v 9)
  | 11 => (v 10)
  | 12 => (v 11)
  | 13 => (v 12)
  | 14 => (v 13)
  | 15 => (v 14)
  | 16 => (v 15)
  | 17 => (v 16)
  | 18 => (v 17)
  | 19 => (v 18)
  | 20 => (v 19)
  | 21 => (v 20)
  | _ => (v 21)
def po_C : List Nat := [0, 1, 7, 10, 12, 14, 15, 16, 20, 23, 26, 2, 3, 4, 5, 6, 9, 8, 11, 13, 17, 18, 19, 21, 22, 24, 25, 27, 28, 29, 30, 31, 32]
def po_M : List Nat := [33, 34, 35, 36, 37, 38, 39, 40, 41, 42, 43, 44, 45, 46, 47, 48, 49, 50, 51, 52, 53, 54, 55]
set_option maxRecDepth 4000 in
theorem st_PC {l : Launch} {D : va_G} {cI cL : ClassId} {q0 q1 : Nat} {u v : Nat → Nat} {H : Heap} (hP : va_P D vwCl (co_X10 cI cL q0 u ++ co_X11 cI cL q1 v) H) : kk_P (l, qC q0 u, D, cI, cL) sh_C σC0 H := by
  refine kk_P_of (fun k s h => ?_)
  match k, h with
  | 0, h => cases h; exact hP 0 _ rfl
  | 1, h => cases h; exact hP 1 _ rfl
  | 2, h => cases h; exact hP 7 _ rfl
  | 3, h => cases h; exact hP 10 _ rfl
  | 4, h => cases h; exact hP 12 _ rfl
  | 5, h => cases h; exact hP 14 _ rfl
  | 6, h => cases h; exact hP 15 _ rfl
  | 7, h => cases h; exact hP 16 _ rfl
  | 8, h => cases h; exact hP 20 _ rfl
  | 9, h => cases h; exact hP 23 _ rfl
  | 10, h => cases h; exact hP 26 _ rfl
  | 11, h => cases h; exact hP 2 _ rfl
  | 12, h => cases h; exact hP 3 _ rfl
  | 13, h => cases h; exact hP 4 _ rfl
  | 14, h => cases h; exact hP 5 _ rfl
  | 15, h => cases h; exact hP 6 _ rfl
  | 16, h => cases h; exact hP 9 _ rfl
  | 17, h => cases h; exact hP 8 _ rfl
  | 18, h => cases h; exact hP 11 _ rfl
  | 19, h => cases h; exact hP 13 _ rfl
  | 20, h => cases h; exact hP 17 _ rfl
  | 21, h => cases h; exact hP 18 _ rfl
  | 22, h => cases h; exact hP 19 _ rfl
  | 23, h => cases h; exact hP 21 _ rfl
  | 24, h => cases h; exact hP 22 _ rfl
  | 25, h => cases h; exact hP 24 _ rfl
  | 26, h => cases h; exact hP 25 _ rfl
  | 27, h => cases h; exact hP 27 _ rfl
  | 28, h => cases h; exact hP 28 _ rfl
  | 29, h => cases h; exact hP 29 _ rfl
  | 30, h => cases h; exact hP 30 _ rfl
  | 31, h => cases h; exact hP 31 _ rfl
  | 32, h => cases h; exact hP 32 _ rfl
  | k + 33, h => simp at h
theorem st_qC {cI cL : ClassId} {q0 q1 : Nat} {u v : Nat → Nat} : ∀ k, k < sh_C.length → ∃ x, po_C[k]? = some x ∧ ∃ e, (co_X10 cI cL q0 u ++ co_X11 cI cL q1 v)[x]? = some (qC q0 u k, e) := by
  intro k hk
  have hk : k < 33 := hk
  match k, hk with
  | 0, _ => exact ⟨0, rfl, _, rfl⟩
  | 1, _ => exact ⟨1, rfl, _, rfl⟩
  | 2, _ => exact ⟨7, rfl, _, rfl⟩
  | 3, _ => exact ⟨10, rfl, _, rfl⟩
  | 4, _ => exact ⟨12, rfl, _, rfl⟩
  | 5, _ => exact ⟨14, rfl, _, rfl⟩
  | 6, _ => exact ⟨15, rfl, _, rfl⟩
  | 7, _ => exact ⟨16, rfl, _, rfl⟩
  | 8, _ => exact ⟨20, rfl, _, rfl⟩
  | 9, _ => exact ⟨23, rfl, _, rfl⟩
  | 10, _ => exact ⟨26, rfl, _, rfl⟩
  | 11, _ => exact ⟨2, rfl, _, rfl⟩
  | 12, _ => exact ⟨3, rfl, _, rfl⟩
  | 13, _ => exact ⟨4, rfl, _, rfl⟩
  | 14, _ => exact ⟨5, rfl, _, rfl⟩
  | 15, _ => exact ⟨6, rfl, _, rfl⟩
  | 16, _ => exact ⟨9, rfl, _, rfl⟩
  | 17, _ => exact ⟨8, rfl, _, rfl⟩
  | 18, _ => exact ⟨11, rfl, _, rfl⟩
  | 19, _ => exact ⟨13, rfl, _, rfl⟩
  | 20, _ => exact ⟨17, rfl, _, rfl⟩
  | 21, _ => exact ⟨18, rfl, _, rfl⟩
  | 22, _ => exact ⟨19, rfl, _, rfl⟩
  | 23, _ => exact ⟨21, rfl, _, rfl⟩
  | 24, _ => exact ⟨22, rfl, _, rfl⟩
  | 25, _ => exact ⟨24, rfl, _, rfl⟩
  | 26, _ => exact ⟨25, rfl, _, rfl⟩
  | 27, _ => exact ⟨27, rfl, _, rfl⟩
  | 28, _ => exact ⟨28, rfl, _, rfl⟩
  | 29, _ => exact ⟨29, rfl, _, rfl⟩
  | 30, _ => exact ⟨30, rfl, _, rfl⟩
  | 31, _ => exact ⟨31, rfl, _, rfl⟩
  | 32, _ => exact ⟨32, rfl, _, rfl⟩
  | k + 33, h => omega
set_option maxRecDepth 4000 in
theorem st_PM {l : Launch} {D : va_G} {cI cL : ClassId} {q0 q1 : Nat} {u v : Nat → Nat} {H : Heap} (hP : va_P D vwCl (co_X10 cI cL q0 u ++ co_X11 cI cL q1 v) H) : kk_P (l, qM q1 v, D, cI, cL) sh_M σM0 H := by
  refine kk_P_of (fun k s h => ?_)
  match k, h with
  | 0, h => cases h; exact hP 33 _ rfl
  | 1, h => cases h; exact hP 34 _ rfl
  | 2, h => cases h; exact hP 35 _ rfl
  | 3, h => cases h; exact hP 36 _ rfl
  | 4, h => cases h; exact hP 37 _ rfl
  | 5, h => cases h; exact hP 38 _ rfl
  | 6, h => cases h; exact hP 39 _ rfl
  | 7, h => cases h; exact hP 40 _ rfl
  | 8, h => cases h; exact hP 41 _ rfl
  | 9, h => cases h; exact hP 42 _ rfl
  | 10, h => cases h; exact hP 43 _ rfl
  | 11, h => cases h; exact hP 44 _ rfl
  | 12, h => cases h; exact hP 45 _ rfl
  | 13, h => cases h; exact hP 46 _ rfl
  | 14, h => cases h; exact hP 47 _ rfl
  | 15, h => cases h; exact hP 48 _ rfl
  | 16, h => cases h; exact hP 49 _ rfl
  | 17, h => cases h; exact hP 50 _ rfl
  | 18, h => cases h; exact hP 51 _ rfl
  | 19, h => cases h; exact hP 52 _ rfl
  | 20, h => cases h; exact hP 53 _ rfl
  | 21, h => cases h; exact hP 54 _ rfl
  | 22, h => cases h; exact hP 55 _ rfl
  | k + 23, h => simp at h
theorem st_qM {cI cL : ClassId} {q0 q1 : Nat} {u v : Nat → Nat} : ∀ k, k < sh_M.length → ∃ x, po_M[k]? = some x ∧ ∃ e, (co_X10 cI cL q0 u ++ co_X11 cI cL q1 v)[x]? = some (qM q1 v k, e) := by
  intro k hk
  have hk : k < 23 := hk
  match k, hk with
  | 0, _ => exact ⟨33, rfl, _, rfl⟩
  | 1, _ => exact ⟨34, rfl, _, rfl⟩
  | 2, _ => exact ⟨35, rfl, _, rfl⟩
  | 3, _ => exact ⟨36, rfl, _, rfl⟩
  | 4, _ => exact ⟨37, rfl, _, rfl⟩
  | 5, _ => exact ⟨38, rfl, _, rfl⟩
  | 6, _ => exact ⟨39, rfl, _, rfl⟩
  | 7, _ => exact ⟨40, rfl, _, rfl⟩
  | 8, _ => exact ⟨41, rfl, _, rfl⟩
  | 9, _ => exact ⟨42, rfl, _, rfl⟩
  | 10, _ => exact ⟨43, rfl, _, rfl⟩
  | 11, _ => exact ⟨44, rfl, _, rfl⟩
  | 12, _ => exact ⟨45, rfl, _, rfl⟩
  | 13, _ => exact ⟨46, rfl, _, rfl⟩
  | 14, _ => exact ⟨47, rfl, _, rfl⟩
  | 15, _ => exact ⟨48, rfl, _, rfl⟩
  | 16, _ => exact ⟨49, rfl, _, rfl⟩
  | 17, _ => exact ⟨50, rfl, _, rfl⟩
  | 18, _ => exact ⟨51, rfl, _, rfl⟩
  | 19, _ => exact ⟨52, rfl, _, rfl⟩
  | 20, _ => exact ⟨53, rfl, _, rfl⟩
  | 21, _ => exact ⟨54, rfl, _, rfl⟩
  | 22, _ => exact ⟨55, rfl, _, rfl⟩
  | k + 23, h => omega
theorem st_nd : va_nd (po_C ++ po_M) = true := by decide
theorem st_cross : ∀ i, i < 33 → ∀ j, j < 23 → po_C[i]? ≠ po_M[j]? := by decide
theorem lcl_7 : Cond.classLink RL 7 RX10 ∈ kk_good := kk_gm 167 (by decide +kernel) rfl
theorem lcl_10 : Cond.classLink RL 10 RX11 ∈ kk_good := kk_gm 1080 (by decide +kernel) rfl
theorem lin_10 : Cond.instantiable RX10 13 ∈ kk_good := kk_gm 168 (by decide +kernel) rfl
theorem lin_11 : Cond.instantiable RX11 31 ∈ kk_good := kk_gm 1081 (by decide +kernel) rfl
theorem lii_10 : Cond.initialized RX10 ∈ kk_good := kk_gm 151 (by decide +kernel) rfl
theorem lii_11 : Cond.initialized RX11 ∈ kk_good := kk_gm 163 (by decide +kernel) rfl
theorem il_L_9 : ct_ML RL 9 yX10_init cX10_init 1 0 := ⟨kk_gm 171 (by decide +kernel) rfl, kk_gm 151 (by decide +kernel) rfl, by decide +kernel, rfl, kk_gm 170 (by decide +kernel) rfl, Or.inl (kk_gm 169 (by decide +kernel) rfl)⟩
theorem il_L_12 : ct_ML RL 12 yX11_init cX11_init 1 0 := ⟨kk_gm 1084 (by decide +kernel) rfl, kk_gm 163 (by decide +kernel) rfl, by decide +kernel, rfl, kk_gm 1083 (by decide +kernel) rfl, Or.inl (kk_gm 1082 (by decide +kernel) rfl)⟩
theorem lik_0 : Cond.instantiable RX0 3 ∈ kk_good := kk_gm 374 (by decide +kernel) rfl
theorem lik_1 : Cond.instantiable RX1 5 ∈ kk_good := kk_gm 317 (by decide +kernel) rfl
theorem lik_2 : Cond.instantiable RX2 2 ∈ kk_good := kk_gm 304 (by decide +kernel) rfl
theorem lik_3 : Cond.instantiable RX3 3 ∈ kk_good := kk_gm 234 (by decide +kernel) rfl
theorem lik_4 : Cond.instantiable RX4 4 ∈ kk_good := kk_gm 257 (by decide +kernel) rfl
theorem lik_5 : Cond.instantiable RX5 5 ∈ kk_good := kk_gm 280 (by decide +kernel) rfl
theorem lik_6 : Cond.instantiable RX6 8 ∈ kk_good := kk_gm 176 (by decide +kernel) rfl
theorem lik_7 : Cond.instantiable RX7 8 ∈ kk_good := kk_gm 342 (by decide +kernel) rfl
theorem lik_8 : Cond.instantiable RX8 3 ∈ kk_good := kk_gm 392 (by decide +kernel) rfl
theorem lik_9 : Cond.instantiable RX9 7 ∈ kk_good := kk_gm 408 (by decide +kernel) rfl
theorem lik_10 : Cond.instantiable RX10 13 ∈ kk_good := kk_gm 168 (by decide +kernel) rfl
theorem lik_11 : Cond.instantiable RX11 31 ∈ kk_good := kk_gm 1081 (by decide +kernel) rfl
theorem st_known {s : State} {args : Array Value} (hts : ∀ w ∈ kk_good, w.before args s = true) : ∃ D : va_G, ∀ (k : Nat) (q : vw_C), vwCl[k]? = some q → u_Kn s q.1 q.2.1 q.2.2 (D.1 k) (D.2 k) := by
  obtain ⟨c0, i0, hKn0⟩ := u_known (C := RX0) (T := TX0) (N := 3) (n := 3) hts ws_X0 (hts _ lik_0)
  obtain ⟨c1, i1, hKn1⟩ := u_known (C := RX1) (T := TX1) (N := 5) (n := 5) hts ws_X1 (hts _ lik_1)
  obtain ⟨c2, i2, hKn2⟩ := u_known (C := RX2) (T := TX2) (N := 2) (n := 2) hts ws_X2 (hts _ lik_2)
  obtain ⟨c3, i3, hKn3⟩ := u_known (C := RX3) (T := TX3) (N := 3) (n := 3) hts ws_X3 (hts _ lik_3)
  obtain ⟨c4, i4, hKn4⟩ := u_known (C := RX4) (T := TX4) (N := 4) (n := 4) hts ws_X4 (hts _ lik_4)
  obtain ⟨c5, i5, hKn5⟩ := u_known (C := RX5) (T := TX5) (N := 5) (n := 5) hts ws_X5 (hts _ lik_5)
  obtain ⟨c6, i6, hKn6⟩ := u_known (C := RX6) (T := TX6) (N := 8) (n := 8) hts ws_X6 (hts _ lik_6)
  obtain ⟨c7, i7, hKn7⟩ := u_known (C := RX7) (T := TX7) (N := 8) (n := 8) hts ws_X7 (hts _ lik_7)
  obtain ⟨c8, i8, hKn8⟩ := u_known (C := RX8) (T := TX8) (N := 3) (n := 3) hts ws_X8 (hts _ lik_8)
  obtain ⟨c9, i9, hKn9⟩ := u_known (C := RX9) (T := TX9) (N := 7) (n := 7) hts ws_X9 (hts _ lik_9)
  obtain ⟨c10, i10, hKn10⟩ := u_known (C := RX10) (T := TX10) (N := 13) (n := 13) hts ws_X10 (hts _ lik_10)
  obtain ⟨c11, i11, hKn11⟩ := u_known (C := RX11) (T := TX11) (N := 31) (n := 31) hts ws_X11 (hts _ lik_11)
  refine ⟨(fun k => match k with
    | 0 => c0
    | 1 => c1
    | 2 => c2
    | 3 => c3
    | 4 => c4
    | 5 => c5
    | 6 => c6
    | 7 => c7
    | 8 => c8
    | 9 => c9
    | 10 => c10
    | _ => c11, fun k => match k with
    | 0 => i0
    | 1 => i1
    | 2 => i2
    | 3 => i3
    | 4 => i4
    | 5 => i5
    | 6 => i6
    | 7 => i7
    | 8 => i8
    | 9 => i9
    | 10 => i10
    | _ => i11), ?_⟩
  intro k q hq
  match k, hq with
  | 0, hq => cases hq; exact hKn0
  | 1, hq => cases hq; exact hKn1
  | 2, hq => cases hq; exact hKn2
  | 3, hq => cases hq; exact hKn3
  | 4, hq => cases hq; exact hKn4
  | 5, hq => cases hq; exact hKn5
  | 6, hq => cases hq; exact hKn6
  | 7, hq => cases hq; exact hKn7
  | 8, hq => cases hq; exact hKn8
  | 9, hq => cases hq; exact hKn9
  | 10, hq => cases hq; exact hKn10
  | 11, hq => cases hq; exact hKn11
  | k + 12, hq => simp [vwCl] at hq
set_option maxHeartbeats 4000000 in
set_option maxRecDepth 20000 in
theorem whole_from {Rel : kk_St → kk_St → Prop} (hp0 : pr_begin Rel) (hp1 : pr_line Rel) (hp2 : pr_paint Rel) (hp3 : pr_bare Rel) (hp4 : pr_turn Rel) (hp5 : pr_swap Rel) (hp6 : pr_grow Rel) (hp7 : pr_growAll Rel) (hp8 : pr_pair Rel) (hp9 : pr_even Rel) (hp10 : pr_take Rel) (hp11 : pr_keep Rel) (hp12 : pr_back Rel) (hp13 : pr_grown Rel) (hp14 : pr_of Rel) (hp15 : pr_clash Rel) (hp16 : pr_post Rel) (hp17 : pr_colour Rel) (hp18 : pr_chain Rel) (hp19 : pr_idle Rel) (hp20 : pr_calmer Rel) (hp21 : pr_fan Rel) (hp22 : pr_index Rel) (hp23 : pr_first Rel) (hp24 : pr_overfull Rel) (hp25 : pr_refused Rel) (hp26 : pr_list Rel) (hp27 : pr_listed Rel) (hp28 : pr_free Rel) (hp29 : pr_longest Rel) (hp30 : pr_sets Rel) (hp31 : pr_critical Rel) (hp32 : pr_kinds Rel) (hp33 : pr_turns Rel) (hp34 : pr_chains Rel) (hp35 : pr_sides Rel) (hp36 : pr_apart Rel) (hp37 : pr_ways Rel) (hp38 : pr_unlike Rel) (hp39 : pr_count Rel) (hp : Rel σC0 σM0) {p : Program} {e : Env} {s : State} {m : MethodId} {below : List Frame} {meth : Method} {c : Code} (l : Launch) {b L : Nat} {xs : Nat → Int32} (hL : L ≤ 2560) (C0 : lw_At p s m meth c b L xs) : W p l e room_1 s m #[Value.ref b] below meth c s.heap [] 0 0 (lw_Z below #[Value.ref b] s) (entryFrame m ([Value.ref b] : List Value).toArray 4) := by
  obtain ⟨hx, hb, hr, hml, hown, hts0, hX, hbl, hlocks, hgv⟩ := id C0
  have hts : ∀ w ∈ kk_good, w.before #[Value.ref b] s = true := fun w hw => hts0 w (List.mem_filter.mp hw).1
  have hN : kk_NW s := fun w hw => va_Nw.of (kk_isN_on (List.mem_filter.mp hw).2) (hts0 w (List.mem_filter.mp hw).1)
  have hA : ∀ q : Nat, s.heap.size ≤ q → lk_A s q := fun _ h => h
  obtain ⟨cI, hI1, hI2⟩ := lw_arr (fun C h => by cases h) (hts (.arrayClass .int) aw_clsI)
  obtain ⟨cL, hL1, hL2⟩ := lw_arr (fun C h => by cases h) (hts (.arrayClass .long) aw_clsL)
  obtain ⟨D, hKc⟩ := st_known hts
  have hK : va_K D vwCl (ct_tys cI cL) s := ⟨hKc, fun k q h => by
    match k, h with
    | 0, h => cases h; exact ⟨hI1, hI2⟩
    | 1, h => cases h; exact ⟨hL1, hL2⟩
    | k + 2, h => simp [ct_tys] at h⟩
  have hS : va_S (lk_A s) s.heap s.heap [] := va_S.rf
  have hP : va_P D vwCl [] s.heap := fun k q h => by simp at h
  have hD : va_D (lk_A s) [] := ⟨fun i j p q h => by simp at h, fun k q h => by simp at h⟩
  have hl := lv_entry ([.ref b]) (n := 4) (Nat.le_of_ble_eq_true rfl)
  rw [lg_entry_eq]
  generalize (lg_sl ([.ref b]) ++ List.replicate (4 - (lg_sl ([.ref b])).length) Slot.unset).toArray = ls at hl ⊢
  have hl : lv_has ls 4 [(0, .ref b)] := hl
  refine va_new (ci := 10) (fs := [.null, .null, .null, .null, .null, .null, .null, .null, .null, .null, .null, .null, .int 0]) (C := RX10) (T := TX10) (N := 13) hx hb hts ws_X10 tyX10 tyX10_ok hown (hts _ lcl_7) (hts _ lin_10) (hts _ lii_10) hK hP hD hS hA rfl dv_X10 (Nat.le_of_ble_eq_true rfl) (Nat.le_of_ble_eq_true rfl) e_L_0.1 (fun q0 H hP hD hS => ?_)
  refine W.widen (k := 1) (n := 13) (by omega) (by omega) ?_
  refine lv_dup hx hb e_L_3.1 rfl ?_
  refine w_initL (w := []) (av := []) (rest := [.ref q0]) hx hb hml hown hts hK hN hA hP hD hS hl e_L_4.1 (ct_X10 l D cI cL q0) il_L_9 rfl ⟨rfl, rfl, Nat.le_of_ble_eq_true rfl, Nat.le_of_ble_eq_true rfl, Nat.le_of_ble_eq_true rfl, Nat.le_of_ble_eq_true rfl⟩ (Nat.le_of_ble_eq_true rfl) rfl (fun u H locs hP hD hS => ?_)
  rw [List.nil_append] at hP hD
  refine W.widen (k := 33) (n := 690) (by omega) (by omega) ?_
  refine lv_astore_n (lv' := [(1, .ref q0), (0, .ref b)]) hx hb e_L_7.1 rfl hl (by decide) rfl (fun ls hl => ?_)
  generalize hw : co_X10 cI cL q0 u = w0 at hP hD
  refine va_new (ci := 11) (fs := [.int 0, .int 0, .int 0, .null, .null, .null, .null, .null, .int 0, .int 0, .null, .int 0, .int 0, .null, .null, .null, .null, .int 0, .null, .null, .null, .null, .null, .int 0, .null, .null, .null, .null, .null, .null, .null]) (C := RX11) (T := TX11) (N := 31) hx hb hts ws_X11 tyX11 tyX11_ok hown (hts _ lcl_10) (hts _ lin_11) (hts _ lii_11) hK hP hD hS hA rfl dv_X11 (Nat.le_of_ble_eq_true rfl) (Nat.le_of_ble_eq_true rfl) e_L_8.1 (fun q1 H hP hD hS => ?_)
  refine W.widen (k := 34) (n := 721) (by omega) (by omega) ?_
  refine lv_dup hx hb e_L_11.1 rfl ?_
  refine w_initL (w := w0) (av := []) (rest := [.ref q1]) hx hb hml hown hts hK hN hA hP hD hS hl e_L_12.1 (ct_X11 l D cI cL q1) il_L_12 rfl ⟨rfl, rfl, Nat.le_of_ble_eq_true rfl, Nat.le_of_ble_eq_true rfl, Nat.le_of_ble_eq_true rfl, Nat.le_of_ble_eq_true rfl⟩ (Nat.le_of_ble_eq_true rfl) rfl (fun v H locs hP hD hS => ?_)
  refine W.widen (k := 56) (n := 22504) (by omega) (by omega) ?_
  refine lv_astore_n (lv' := [(2, .ref q1), (1, .ref q0), (0, .ref b)]) hx hb e_L_15.1 rfl hl (by decide) rfl (fun ls hl => ?_)
  refine lv_iconst (v := 0) hx hb e_L_16.1 (by decide) ?_
  refine lv_istore_n (lv' := [(3, .int 0), (2, .ref q1), (1, .ref q0), (0, .ref b)]) hx hb e_L_17.1 rfl hl (by decide) rfl (fun ls hl => ?_)
  subst hw
  obtain ⟨j1, j3⟩ := st_inj (pos := po_C) hD rfl (by decide) (st_qC (cI := cI) (cL := cL) (q0 := q0) (q1 := q1) (u := u) (v := v))
  obtain ⟨j2, j4⟩ := st_inj (pos := po_M) hD rfl (by decide) (st_qM (cI := cI) (cL := cL) (q0 := q0) (q1 := q1) (u := u) (v := v))
  have j5 : ∀ i j, i < sh_C.length → j < sh_M.length → qC q0 u i ≠ qM q1 v j := by
    intro i j hi hj h
    obtain ⟨x, a1, e1, a2⟩ := st_qC (cI := cI) (cL := cL) (q0 := q0) (q1 := q1) (u := u) (v := v) i hi
    obtain ⟨y, b1, e2, b2⟩ := st_qM (cI := cI) (cL := cL) (q0 := q0) (q1 := q1) (u := u) (v := v) j hj
    have hxy := hD.1 x y _ _ a2 b2 h
    exact st_cross i hi j hj (by rw [a1, b1, hxy])
  have CC : lk_C (l, qC q0 u, D, cI, cL) (l, qM q1 v, D, cI, cL) p s m meth c b L xs := ⟨hx, hb, hr, hml, hown, hts, hlocks, ⟨hK, hN, j1⟩, ⟨hK, hN, j2⟩, hX, hbl, j3, j4, j5⟩
  exact law_loop hp0 hp1 hp2 hp3 hp4 hp5 hp6 hp7 hp8 hp9 hp10 hp11 hp12 hp13 hp14 hp15 hp16 hp17 hp18 hp19 hp20 hp21 hp22 hp23 hp24 hp25 hp26 hp27 hp28 hp29 hp30 hp31 hp32 hp33 hp34 hp35 hp36 hp37 hp38 hp39 CC rfl rfl ⟨Nat.le_of_ble_eq_true rfl, Nat.le_of_ble_eq_true rfl⟩ hL (L + 1) 0 (by omega) (Nat.zero_le _) σC0 σM0 hp H locs ls (st_PC hP) (st_PM hP) hS (lv_sub hl [3, 2, 1, 0] rfl)
