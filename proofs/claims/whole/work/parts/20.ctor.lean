theorem sG_J7_fill_53178 (Z : kk_Z) (sh : List kk_Sh) (a0 : Nat) (n0 : Nat) (v1 : Int32) (σ : kk_St) (Q : kk_St → Prop) (ha0 : sh[a0]? = some (.inl (false, n0))) (h : f_J7_fill_53178 a0 n0 v1 σ Q) : kk_M Z sh yJ7_fill_53178 cJ7_fill_53178 4 none (kk_R 2) [.ref (Z.2.1 a0), .int v1] σ (kk_Qv Z sh Q) := by
  unfold f_J7_fill_53178 at h
  refine kk_met (own := RJ7) (by decide) rfl (Nat.le_of_ble_eq_true rfl) rfl ?_
  refine kk_iconst ic_0 e_J7_fill_53178_0 ?_
  refine kk_istore_n (lv' := [(2, .int (0 : Int32)), (0, .ref (Z.2.1 a0)), (1, .int v1)]) e_J7_fill_53178_1 rfl (by decide) rfl ?_
  refine kk_aload_n 1 rfl e_J7_fill_53178_2 ?_
  refine kk_alen e_J7_fill_53178_3 ha0 rfl ?_
  refine kk_istore_n (lv' := [(3, .int (Int32.ofNat n0)), (2, .int (0 : Int32)), (0, .ref (Z.2.1 a0)), (1, .int v1)]) e_J7_fill_53178_4 rfl (by decide) rfl ?_
  refine kk_sub [2, 3, 1, 0] rfl ?_
  refine kk_lpW2 (P := fun (v2_1 : Int32) (σ_2 : kk_St) => KK Z sh RJ7 cJ7_fill_53178 4 none (kk_R 2) (kk_Qv Z sh Q) 5 [(0, .ref (Z.2.1 a0)), (1, .int v1), (2, .int v2_1), (3, .int (Int32.ofNat n0))] [] σ_2) ?_ h
  intro rec_3 hrec_3 v2_1 σ_2 h
  refine kk_iload_n 2 rfl e_J7_fill_53178_5 ?_
  refine kk_iload_n 3 rfl e_J7_fill_53178_6 ?_
  refine kk_icmp_ge e_J7_fill_53178_7 (fun c_5 => ?_) (fun c_5 => ?_)
  · replace h := h.1 c_5
    exact kk_vret e_J7_fill_53178_20 h
  · replace h := h.2 c_5
    refine kk_aload_n 0 rfl e_J7_fill_53178_10 ?_
    refine kk_iload_n 2 rfl e_J7_fill_53178_11 ?_
    refine kk_iload_n 1 rfl e_J7_fill_53178_12 ?_
    refine kk_iast e_J7_fill_53178_13 ha0 h.1 ?_
    replace h := h.2
    refine kk_tops (fun σ_4 eσ_4 => ?_)
    replace h := h σ_4 eσ_4
    refine kk_iinc (lv' := [(2, .int (v2_1 + (1 : Int32))), (0, .ref (Z.2.1 a0)), (1, .int v1), (3, .int (Int32.ofNat n0))]) e_J7_fill_53178_14 (j := 2) rfl (ii_1 v2_1) (by decide) rfl ?_
    refine kk_goto e_J7_fill_53178_17 ?_
    exact kk_sub [1, 2, 0, 3] rfl (hrec_3 (v2_1 + (1 : Int32)) σ_4 h)
theorem ct_fill : f_J7_fill_53178 0 20 (-1 : Int32) (fun _ _ => 0, fun _ => 0) (fun σ' => ∀ i, i < 20 → σ'.1 0 i = -1) := by
  unfold f_J7_fill_53178
  refine kk_lpI2 (fun v σ => ∃ k : Nat, k ≤ 20 ∧ v = nI k ∧ ∀ i, i < k → σ.1 0 i = -1) (fun v _ => 20 - v.toNatClampNeg) ?_ ⟨0, by omega, rfl, fun i hi => absurd hi (Nat.not_lt_zero _)⟩
  rintro rec v σ ⟨k, hk, rfl, hσ⟩ hrec
  have hof : Int32.ofNat 20 = nI 20 := rfl
  refine ⟨fun h => ?_, fun h => ?_⟩
  · rw [hof, nI_leI (by omega) (by omega)] at h
    intro i hi
    exact hσ i (by omega)
  · rw [hof, nI_leI (by omega) (by omega)] at h
    refine ⟨vp_in_nI (by omega) (by omega), ?_⟩
    intro σ' hσ'
    subst hσ'
    have e1 : nI k + 1 = nI (k + 1) := nI_1 k
    rw [e1]
    have c1 : (nI k).toNatClampNeg = k := nI_clamp (by omega)
    refine hrec (nI (k + 1)) _ ⟨k + 1, by omega, rfl, fun i hi => ?_⟩ (by rw [c1, nI_clamp (by omega)]; omega)
    rw [c1]
    show (if (0 : Nat) = 0 then upd (σ.1 0) k (-1) else σ.1 0) i = -1
    rw [if_pos rfl]
    by_cases hik : i = k
    · subst hik; exact pk_us
    · rw [pk_un hik]; exact hσ i (by omega)
section
variable {l : Launch} {D : va_G} {cI cL : ClassId} {own : String} {cc : ByteArray} {nL : Nat} {R : Room} {A : Nat → Prop} {Qc : Array Value → State → Outcome → State → Prop} {mc ms pc b : Nat} {lv : List (Nat × Value)} {st : List Value} {ws ws' : va_W} {cells slots cells' slots' : Nat}
theorem ck_arr {a N : Nat} {f g : Nat → Int32} (i : Nat) (hi : ws[i]? = some (a, .inl (cI, N, .inl f))) (hfg : ∀ j, j < N → f j = g j) (kk : CK l D cI cL own cc nL R A Qc mc ms pc lv st (ws.set i (a, .inl (cI, N, .inl g))) cells slots) : CK l D cI cL own cc nL R A Qc mc ms pc lv st ws cells slots := by
  intro p e s m args below meth c C H locs ls hP hD hS hl
  refine kk p e s m args below meth c C H locs ls (hP.set hD hi ?_ (fun _ _ => rfl)) (hD.set hi) hS hl
  have h1 : va_at D vwCl (a, .inl (cI, N, .inl f)) H := hP i _ hi
  have h2 : vp_cell cI (N, .inl f) = vp_cell cI (N, .inl g) := by
    rw [vp_cell_i, vp_cell_i]
    unfold arrV
    congr 2
    funext j
    show Value.int (f j.val) = Value.int (g j.val)
    rw [hfg j.val j.isLt]
  show H[a]? = some (vp_cell cI (N, .inl g))
  rw [← h2]
  exact h1
end

theorem ol_inst : Cond.instanceMethod Lib.objectInit ∈ kk_good := kk_gm 173 (by decide +kernel) rfl
theorem ol_code : Cond.code Lib.objectInit ⟨#[0xb1]⟩ 1 none ∈ kk_good := kk_gm 174 (by decide +kernel) rfl
theorem aw_clsI : Cond.arrayClass .int ∈ kk_good := kk_gm 232 (by decide +kernel) rfl
theorem aw_clsL : Cond.arrayClass .long ∈ kk_good := kk_gm 1179 (by decide +kernel) rfl
theorem ol_X6 : Cond.methodLink RX6 3 Lib.objectInit ∈ kk_good := kk_gm 180 (by decide +kernel) rfl
theorem ol_X3 : Cond.methodLink RX3 3 Lib.objectInit ∈ kk_good := kk_gm 238 (by decide +kernel) rfl
theorem ol_X4 : Cond.methodLink RX4 3 Lib.objectInit ∈ kk_good := kk_gm 261 (by decide +kernel) rfl
theorem ol_X5 : Cond.methodLink RX5 3 Lib.objectInit ∈ kk_good := kk_gm 284 (by decide +kernel) rfl
theorem ol_X2 : Cond.methodLink RX2 3 Lib.objectInit ∈ kk_good := kk_gm 308 (by decide +kernel) rfl
theorem ol_X1 : Cond.methodLink RX1 1 Lib.objectInit ∈ kk_good := kk_gm 321 (by decide +kernel) rfl
theorem ol_X7 : Cond.methodLink RX7 3 Lib.objectInit ∈ kk_good := kk_gm 346 (by decide +kernel) rfl
theorem ol_X0 : Cond.methodLink RX0 3 Lib.objectInit ∈ kk_good := kk_gm 378 (by decide +kernel) rfl
theorem ol_X8 : Cond.methodLink RX8 3 Lib.objectInit ∈ kk_good := kk_gm 396 (by decide +kernel) rfl
theorem ol_X9 : Cond.methodLink RX9 5 Lib.objectInit ∈ kk_good := kk_gm 412 (by decide +kernel) rfl
theorem ol_X10 : Cond.methodLink RX10 1 Lib.objectInit ∈ kk_good := kk_gm 172 (by decide +kernel) rfl
theorem cl_X10_7 : Cond.classLink RX10 7 RX6 ∈ kk_good := kk_gm 175 (by decide +kernel) rfl
theorem in_X6 : Cond.instantiable RX6 8 ∈ kk_good := kk_gm 176 (by decide +kernel) rfl
theorem ini_X6 : Cond.initialized RX6 ∈ kk_good := kk_gm 152 (by decide +kernel) rfl
theorem cl_X10_16 : Cond.classLink RX10 16 RX3 ∈ kk_good := kk_gm 233 (by decide +kernel) rfl
theorem in_X3 : Cond.instantiable RX3 3 ∈ kk_good := kk_gm 234 (by decide +kernel) rfl
theorem ini_X3 : Cond.initialized RX3 ∈ kk_good := kk_gm 153 (by decide +kernel) rfl
theorem cl_X10_25 : Cond.classLink RX10 25 RX4 ∈ kk_good := kk_gm 256 (by decide +kernel) rfl
theorem in_X4 : Cond.instantiable RX4 4 ∈ kk_good := kk_gm 257 (by decide +kernel) rfl
theorem ini_X4 : Cond.initialized RX4 ∈ kk_good := kk_gm 155 (by decide +kernel) rfl
theorem cl_X10_34 : Cond.classLink RX10 34 RX5 ∈ kk_good := kk_gm 279 (by decide +kernel) rfl
theorem in_X5 : Cond.instantiable RX5 5 ∈ kk_good := kk_gm 280 (by decide +kernel) rfl
theorem ini_X5 : Cond.initialized RX5 ∈ kk_good := kk_gm 156 (by decide +kernel) rfl
theorem cl_X10_43 : Cond.classLink RX10 43 RX2 ∈ kk_good := kk_gm 303 (by decide +kernel) rfl
theorem in_X2 : Cond.instantiable RX2 2 ∈ kk_good := kk_gm 304 (by decide +kernel) rfl
theorem ini_X2 : Cond.initialized RX2 ∈ kk_good := kk_gm 157 (by decide +kernel) rfl
theorem cl_X10_50 : Cond.classLink RX10 50 RX1 ∈ kk_good := kk_gm 316 (by decide +kernel) rfl
theorem in_X1 : Cond.instantiable RX1 5 ∈ kk_good := kk_gm 317 (by decide +kernel) rfl
theorem ini_X1 : Cond.initialized RX1 ∈ kk_good := kk_gm 158 (by decide +kernel) rfl
theorem cl_X10_57 : Cond.classLink RX10 57 RX7 ∈ kk_good := kk_gm 341 (by decide +kernel) rfl
theorem in_X7 : Cond.instantiable RX7 8 ∈ kk_good := kk_gm 342 (by decide +kernel) rfl
theorem ini_X7 : Cond.initialized RX7 ∈ kk_good := kk_gm 159 (by decide +kernel) rfl
theorem cl_X10_64 : Cond.classLink RX10 64 RX0 ∈ kk_good := kk_gm 373 (by decide +kernel) rfl
theorem in_X0 : Cond.instantiable RX0 3 ∈ kk_good := kk_gm 374 (by decide +kernel) rfl
theorem ini_X0 : Cond.initialized RX0 ∈ kk_good := kk_gm 160 (by decide +kernel) rfl
theorem cl_X10_71 : Cond.classLink RX10 71 RX8 ∈ kk_good := kk_gm 391 (by decide +kernel) rfl
theorem in_X8 : Cond.instantiable RX8 3 ∈ kk_good := kk_gm 392 (by decide +kernel) rfl
theorem ini_X8 : Cond.initialized RX8 ∈ kk_good := kk_gm 161 (by decide +kernel) rfl
theorem cl_X10_78 : Cond.classLink RX10 78 RX9 ∈ kk_good := kk_gm 407 (by decide +kernel) rfl
theorem in_X9 : Cond.instantiable RX9 7 ∈ kk_good := kk_gm 408 (by decide +kernel) rfl
theorem ini_X9 : Cond.initialized RX9 ∈ kk_good := kk_gm 162 (by decide +kernel) rfl
theorem ol_X11 : Cond.methodLink RX11 15 Lib.objectInit ∈ kk_good := kk_gm 1085 (by decide +kernel) rfl
theorem ff_X0_0 : ct_FF RX0 0 0 := ⟨RX0, TX0, 3, rfl, rfl, rfl⟩
theorem ff_X0_1 : ct_FF RX0 0 1 := ⟨RX0, TX0, 3, rfl, rfl, rfl⟩
theorem ff_X0_2 : ct_FF RX0 0 2 := ⟨RX0, TX0, 3, rfl, rfl, rfl⟩
theorem ff_X1_0 : ct_FF RX1 1 0 := ⟨RX1, TX1, 5, rfl, rfl, rfl⟩
theorem ff_X1_1 : ct_FF RX1 1 1 := ⟨RX1, TX1, 5, rfl, rfl, rfl⟩
theorem ff_X10_0 : ct_FF RX10 10 0 := ⟨RX10, TX10, 13, rfl, rfl, rfl⟩
theorem ff_X10_1 : ct_FF RX10 10 1 := ⟨RX10, TX10, 13, rfl, rfl, rfl⟩
theorem ff_X10_2 : ct_FF RX10 10 2 := ⟨RX10, TX10, 13, rfl, rfl, rfl⟩
theorem ff_X10_3 : ct_FF RX10 10 3 := ⟨RX10, TX10, 13, rfl, rfl, rfl⟩
theorem ff_X10_4 : ct_FF RX10 10 4 := ⟨RX10, TX10, 13, rfl, rfl, rfl⟩
theorem ff_X10_5 : ct_FF RX10 10 5 := ⟨RX10, TX10, 13, rfl, rfl, rfl⟩
theorem ff_X10_6 : ct_FF RX10 10 6 := ⟨RX10, TX10, 13, rfl, rfl, rfl⟩
theorem ff_X10_7 : ct_FF RX10 10 7 := ⟨RX10, TX10, 13, rfl, rfl, rfl⟩
theorem ff_X10_8 : ct_FF RX10 10 8 := ⟨RX10, TX10, 13, rfl, rfl, rfl⟩
theorem ff_X10_9 : ct_FF RX10 10 9 := ⟨RX10, TX10, 13, rfl, rfl, rfl⟩
theorem ff_X10_10 : ct_FF RX10 10 10 := ⟨RX10, TX10, 13, rfl, rfl, rfl⟩
theorem ff_X10_11 : ct_FF RX10 10 11 := ⟨RX10, TX10, 13, rfl, rfl, rfl⟩
theorem ff_X11_3 : ct_FF RX11 11 3 := ⟨RX11, TX11, 31, rfl, rfl, rfl⟩
theorem ff_X11_4 : ct_FF RX11 11 4 := ⟨RX11, TX11, 31, rfl, rfl, rfl⟩
theorem ff_X11_5 : ct_FF RX11 11 5 := ⟨RX11, TX11, 31, rfl, rfl, rfl⟩
theorem ff_X11_6 : ct_FF RX11 11 6 := ⟨RX11, TX11, 31, rfl, rfl, rfl⟩
theorem ff_X11_7 : ct_FF RX11 11 7 := ⟨RX11, TX11, 31, rfl, rfl, rfl⟩
theorem ff_X11_10 : ct_FF RX11 11 10 := ⟨RX11, TX11, 31, rfl, rfl, rfl⟩
theorem ff_X11_13 : ct_FF RX11 11 13 := ⟨RX11, TX11, 31, rfl, rfl, rfl⟩
theorem ff_X11_14 : ct_FF RX11 11 14 := ⟨RX11, TX11, 31, rfl, rfl, rfl⟩
theorem ff_X11_15 : ct_FF RX11 11 15 := ⟨RX11, TX11, 31, rfl, rfl, rfl⟩
theorem ff_X11_16 : ct_FF RX11 11 16 := ⟨RX11, TX11, 31, rfl, rfl, rfl⟩
theorem ff_X11_18 : ct_FF RX11 11 18 := ⟨RX11, TX11, 31, rfl, rfl, rfl⟩
theorem ff_X11_19 : ct_FF RX11 11 19 := ⟨RX11, TX11, 31, rfl, rfl, rfl⟩
theorem ff_X11_20 : ct_FF RX11 11 20 := ⟨RX11, TX11, 31, rfl, rfl, rfl⟩
theorem ff_X11_21 : ct_FF RX11 11 21 := ⟨RX11, TX11, 31, rfl, rfl, rfl⟩
theorem ff_X11_22 : ct_FF RX11 11 22 := ⟨RX11, TX11, 31, rfl, rfl, rfl⟩
theorem ff_X11_24 : ct_FF RX11 11 24 := ⟨RX11, TX11, 31, rfl, rfl, rfl⟩
theorem ff_X11_25 : ct_FF RX11 11 25 := ⟨RX11, TX11, 31, rfl, rfl, rfl⟩
theorem ff_X11_26 : ct_FF RX11 11 26 := ⟨RX11, TX11, 31, rfl, rfl, rfl⟩
theorem ff_X11_27 : ct_FF RX11 11 27 := ⟨RX11, TX11, 31, rfl, rfl, rfl⟩
theorem ff_X11_28 : ct_FF RX11 11 28 := ⟨RX11, TX11, 31, rfl, rfl, rfl⟩
theorem ff_X11_29 : ct_FF RX11 11 29 := ⟨RX11, TX11, 31, rfl, rfl, rfl⟩
theorem ff_X11_30 : ct_FF RX11 11 30 := ⟨RX11, TX11, 31, rfl, rfl, rfl⟩
theorem ff_X2_0 : ct_FF RX2 2 0 := ⟨RX2, TX2, 2, rfl, rfl, rfl⟩
theorem ff_X2_1 : ct_FF RX2 2 1 := ⟨RX2, TX2, 2, rfl, rfl, rfl⟩
theorem ff_X3_0 : ct_FF RX3 3 0 := ⟨RX3, TX3, 3, rfl, rfl, rfl⟩
theorem ff_X3_1 : ct_FF RX3 3 1 := ⟨RX3, TX3, 3, rfl, rfl, rfl⟩
theorem ff_X3_2 : ct_FF RX3 3 2 := ⟨RX3, TX3, 3, rfl, rfl, rfl⟩
theorem ff_X4_0 : ct_FF RX4 4 0 := ⟨RX4, TX4, 4, rfl, rfl, rfl⟩
theorem ff_X4_1 : ct_FF RX4 4 1 := ⟨RX4, TX4, 4, rfl, rfl, rfl⟩
theorem ff_X4_2 : ct_FF RX4 4 2 := ⟨RX4, TX4, 4, rfl, rfl, rfl⟩
theorem ff_X5_0 : ct_FF RX5 5 0 := ⟨RX5, TX5, 5, rfl, rfl, rfl⟩
theorem ff_X5_1 : ct_FF RX5 5 1 := ⟨RX5, TX5, 5, rfl, rfl, rfl⟩
theorem ff_X5_2 : ct_FF RX5 5 2 := ⟨RX5, TX5, 5, rfl, rfl, rfl⟩
theorem ff_X5_3 : ct_FF RX5 5 3 := ⟨RX5, TX5, 5, rfl, rfl, rfl⟩
theorem ff_X6_0 : ct_FF RX6 6 0 := ⟨RX6, TX6, 8, rfl, rfl, rfl⟩
theorem ff_X6_1 : ct_FF RX6 6 1 := ⟨RX6, TX6, 8, rfl, rfl, rfl⟩
theorem ff_X6_2 : ct_FF RX6 6 2 := ⟨RX6, TX6, 8, rfl, rfl, rfl⟩
theorem ff_X6_3 : ct_FF RX6 6 3 := ⟨RX6, TX6, 8, rfl, rfl, rfl⟩
theorem ff_X6_4 : ct_FF RX6 6 4 := ⟨RX6, TX6, 8, rfl, rfl, rfl⟩
theorem ff_X7_0 : ct_FF RX7 7 0 := ⟨RX7, TX7, 8, rfl, rfl, rfl⟩
theorem ff_X7_1 : ct_FF RX7 7 1 := ⟨RX7, TX7, 8, rfl, rfl, rfl⟩
theorem ff_X7_2 : ct_FF RX7 7 2 := ⟨RX7, TX7, 8, rfl, rfl, rfl⟩
theorem ff_X7_3 : ct_FF RX7 7 3 := ⟨RX7, TX7, 8, rfl, rfl, rfl⟩
theorem ff_X8_0 : ct_FF RX8 8 0 := ⟨RX8, TX8, 3, rfl, rfl, rfl⟩
theorem ff_X8_1 : ct_FF RX8 8 1 := ⟨RX8, TX8, 3, rfl, rfl, rfl⟩
theorem ff_X8_2 : ct_FF RX8 8 2 := ⟨RX8, TX8, 3, rfl, rfl, rfl⟩
theorem ff_X9_0 : ct_FF RX9 9 0 := ⟨RX9, TX9, 7, rfl, rfl, rfl⟩
theorem ff_X9_1 : ct_FF RX9 9 1 := ⟨RX9, TX9, 7, rfl, rfl, rfl⟩
theorem ff_X9_2 : ct_FF RX9 9 2 := ⟨RX9, TX9, 7, rfl, rfl, rfl⟩
theorem ff_X9_3 : ct_FF RX9 9 3 := ⟨RX9, TX9, 7, rfl, rfl, rfl⟩
theorem ff_X9_4 : ct_FF RX9 9 4 := ⟨RX9, TX9, 7, rfl, rfl, rfl⟩
theorem lk_X0_9 : ∀ (C : String) (T : u_T) (N : Nat), vwCl[0]? = some (C, T, N) → Cond.fieldLink RX0 9 C (T 1).2.1 (T 1).2.2.1 ∈ kk_good := fun C T N h => by
  have h : (RX0, TX0, 3) = (C, T, N) := Option.some.inj h
  cases h
  exact kk_gm 380 (by decide +kernel) rfl
theorem lk_X0_15 : ∀ (C : String) (T : u_T) (N : Nat), vwCl[0]? = some (C, T, N) → Cond.fieldLink RX0 15 C (T 2).2.1 (T 2).2.2.1 ∈ kk_good := fun C T N h => by
  have h : (RX0, TX0, 3) = (C, T, N) := Option.some.inj h
  cases h
  exact kk_gm 382 (by decide +kernel) rfl
theorem lk_X0_18 : ∀ (C : String) (T : u_T) (N : Nat), vwCl[0]? = some (C, T, N) → Cond.fieldLink RX0 18 C (T 0).2.1 (T 0).2.2.1 ∈ kk_good := fun C T N h => by
  have h : (RX0, TX0, 3) = (C, T, N) := Option.some.inj h
  cases h
  exact kk_gm 379 (by decide +kernel) rfl
theorem lk_X1_7 : ∀ (C : String) (T : u_T) (N : Nat), vwCl[1]? = some (C, T, N) → Cond.fieldLink RX1 7 C (T 2).2.1 (T 2).2.2.1 ∈ kk_good := fun C T N h => by
  have h : (RX1, TX1, 5) = (C, T, N) := Option.some.inj h
  cases h
  exact kk_gm 324 (by decide +kernel) rfl
theorem lk_X1_13 : ∀ (C : String) (T : u_T) (N : Nat), vwCl[1]? = some (C, T, N) → Cond.fieldLink RX1 13 C (T 3).2.1 (T 3).2.2.1 ∈ kk_good := fun C T N h => by
  have h : (RX1, TX1, 5) = (C, T, N) := Option.some.inj h
  cases h
  exact kk_gm 326 (by decide +kernel) rfl
theorem lk_X1_16 : ∀ (C : String) (T : u_T) (N : Nat), vwCl[1]? = some (C, T, N) → Cond.fieldLink RX1 16 C (T 4).2.1 (T 4).2.2.1 ∈ kk_good := fun C T N h => by
  have h : (RX1, TX1, 5) = (C, T, N) := Option.some.inj h
  cases h
  exact kk_gm 328 (by decide +kernel) rfl
theorem lk_X1_19 : ∀ (C : String) (T : u_T) (N : Nat), vwCl[1]? = some (C, T, N) → Cond.fieldLink RX1 19 C (T 0).2.1 (T 0).2.2.1 ∈ kk_good := fun C T N h => by
  have h : (RX1, TX1, 5) = (C, T, N) := Option.some.inj h
  cases h
  exact kk_gm 322 (by decide +kernel) rfl
theorem lk_X1_23 : ∀ (C : String) (T : u_T) (N : Nat), vwCl[1]? = some (C, T, N) → Cond.fieldLink RX1 23 C (T 1).2.1 (T 1).2.2.1 ∈ kk_good := fun C T N h => by
  have h : (RX1, TX1, 5) = (C, T, N) := Option.some.inj h
  cases h
  exact kk_gm 323 (by decide +kernel) rfl
theorem lk_X10_10 : ∀ (C : String) (T : u_T) (N : Nat), vwCl[10]? = some (C, T, N) → Cond.fieldLink RX10 10 C (T 0).2.1 (T 0).2.2.1 ∈ kk_good := fun C T N h => by
  have h : (RX10, TX10, 13) = (C, T, N) := Option.some.inj h
  cases h
  exact kk_gm 435 (by decide +kernel) rfl
theorem lk_X10_21 : ∀ (C : String) (T : u_T) (N : Nat), vwCl[10]? = some (C, T, N) → Cond.fieldLink RX10 21 C (T 1).2.1 (T 1).2.2.1 ∈ kk_good := fun C T N h => by
  have h : (RX10, TX10, 13) = (C, T, N) := Option.some.inj h
  cases h
  exact kk_gm 436 (by decide +kernel) rfl
theorem lk_X10_30 : ∀ (C : String) (T : u_T) (N : Nat), vwCl[10]? = some (C, T, N) → Cond.fieldLink RX10 30 C (T 2).2.1 (T 2).2.2.1 ∈ kk_good := fun C T N h => by
  have h : (RX10, TX10, 13) = (C, T, N) := Option.some.inj h
  cases h
  exact kk_gm 437 (by decide +kernel) rfl
theorem lk_X10_39 : ∀ (C : String) (T : u_T) (N : Nat), vwCl[10]? = some (C, T, N) → Cond.fieldLink RX10 39 C (T 3).2.1 (T 3).2.2.1 ∈ kk_good := fun C T N h => by
  have h : (RX10, TX10, 13) = (C, T, N) := Option.some.inj h
  cases h
  exact kk_gm 438 (by decide +kernel) rfl
theorem lk_X10_46 : ∀ (C : String) (T : u_T) (N : Nat), vwCl[10]? = some (C, T, N) → Cond.fieldLink RX10 46 C (T 4).2.1 (T 4).2.2.1 ∈ kk_good := fun C T N h => by
  have h : (RX10, TX10, 13) = (C, T, N) := Option.some.inj h
  cases h
  exact kk_gm 439 (by decide +kernel) rfl
theorem lk_X10_53 : ∀ (C : String) (T : u_T) (N : Nat), vwCl[10]? = some (C, T, N) → Cond.fieldLink RX10 53 C (T 5).2.1 (T 5).2.2.1 ∈ kk_good := fun C T N h => by
  have h : (RX10, TX10, 13) = (C, T, N) := Option.some.inj h
  cases h
  exact kk_gm 440 (by decide +kernel) rfl
theorem lk_X10_60 : ∀ (C : String) (T : u_T) (N : Nat), vwCl[10]? = some (C, T, N) → Cond.fieldLink RX10 60 C (T 6).2.1 (T 6).2.2.1 ∈ kk_good := fun C T N h => by
  have h : (RX10, TX10, 13) = (C, T, N) := Option.some.inj h
  cases h
  exact kk_gm 441 (by decide +kernel) rfl
theorem lk_X10_67 : ∀ (C : String) (T : u_T) (N : Nat), vwCl[10]? = some (C, T, N) → Cond.fieldLink RX10 67 C (T 7).2.1 (T 7).2.2.1 ∈ kk_good := fun C T N h => by
  have h : (RX10, TX10, 13) = (C, T, N) := Option.some.inj h
  cases h
  exact kk_gm 442 (by decide +kernel) rfl
theorem lk_X10_74 : ∀ (C : String) (T : u_T) (N : Nat), vwCl[10]? = some (C, T, N) → Cond.fieldLink RX10 74 C (T 8).2.1 (T 8).2.2.1 ∈ kk_good := fun C T N h => by
  have h : (RX10, TX10, 13) = (C, T, N) := Option.some.inj h
  cases h
  exact kk_gm 443 (by decide +kernel) rfl
theorem lk_X10_81 : ∀ (C : String) (T : u_T) (N : Nat), vwCl[10]? = some (C, T, N) → Cond.fieldLink RX10 81 C (T 9).2.1 (T 9).2.2.1 ∈ kk_good := fun C T N h => by
  have h : (RX10, TX10, 13) = (C, T, N) := Option.some.inj h
  cases h
  exact kk_gm 444 (by decide +kernel) rfl
theorem lk_X10_85 : ∀ (C : String) (T : u_T) (N : Nat), vwCl[10]? = some (C, T, N) → Cond.fieldLink RX10 85 C (T 10).2.1 (T 10).2.2.1 ∈ kk_good := fun C T N h => by
  have h : (RX10, TX10, 13) = (C, T, N) := Option.some.inj h
  cases h
  exact kk_gm 445 (by decide +kernel) rfl
theorem lk_X10_89 : ∀ (C : String) (T : u_T) (N : Nat), vwCl[10]? = some (C, T, N) → Cond.fieldLink RX10 89 C (T 11).2.1 (T 11).2.2.1 ∈ kk_good := fun C T N h => by
  have h : (RX10, TX10, 13) = (C, T, N) := Option.some.inj h
  cases h
  exact kk_gm 446 (by decide +kernel) rfl
theorem lk_X10_92 : ∀ (C : String) (T : u_T) (N : Nat), vwCl[10]? = some (C, T, N) → Cond.fieldLink RX10 92 C (T 12).2.1 (T 12).2.2.1 ∈ kk_good := fun C T N h => by
  have h : (RX10, TX10, 13) = (C, T, N) := Option.some.inj h
  cases h
  exact kk_gm 447 (by decide +kernel) rfl
theorem lk_X11_21 : ∀ (C : String) (T : u_T) (N : Nat), vwCl[11]? = some (C, T, N) → Cond.fieldLink RX11 21 C (T 1).2.1 (T 1).2.2.1 ∈ kk_good := fun C T N h => by
  have h : (RX11, TX11, 31) = (C, T, N) := Option.some.inj h
  cases h
  exact kk_gm 1086 (by decide +kernel) rfl
theorem lk_X11_24 : ∀ (C : String) (T : u_T) (N : Nat), vwCl[11]? = some (C, T, N) → Cond.fieldLink RX11 24 C (T 3).2.1 (T 3).2.2.1 ∈ kk_good := fun C T N h => by
  have h : (RX11, TX11, 31) = (C, T, N) := Option.some.inj h
  cases h
  exact kk_gm 1088 (by decide +kernel) rfl
theorem lk_X11_28 : ∀ (C : String) (T : u_T) (N : Nat), vwCl[11]? = some (C, T, N) → Cond.fieldLink RX11 28 C (T 4).2.1 (T 4).2.2.1 ∈ kk_good := fun C T N h => by
  have h : (RX11, TX11, 31) = (C, T, N) := Option.some.inj h
  cases h
  exact kk_gm 1089 (by decide +kernel) rfl
theorem lk_X11_31 : ∀ (C : String) (T : u_T) (N : Nat), vwCl[11]? = some (C, T, N) → Cond.fieldLink RX11 31 C (T 5).2.1 (T 5).2.2.1 ∈ kk_good := fun C T N h => by
  have h : (RX11, TX11, 31) = (C, T, N) := Option.some.inj h
  cases h
  exact kk_gm 1090 (by decide +kernel) rfl
theorem lk_X11_34 : ∀ (C : String) (T : u_T) (N : Nat), vwCl[11]? = some (C, T, N) → Cond.fieldLink RX11 34 C (T 6).2.1 (T 6).2.2.1 ∈ kk_good := fun C T N h => by
  have h : (RX11, TX11, 31) = (C, T, N) := Option.some.inj h
  cases h
  exact kk_gm 1091 (by decide +kernel) rfl
theorem lk_X11_37 : ∀ (C : String) (T : u_T) (N : Nat), vwCl[11]? = some (C, T, N) → Cond.fieldLink RX11 37 C (T 7).2.1 (T 7).2.2.1 ∈ kk_good := fun C T N h => by
  have h : (RX11, TX11, 31) = (C, T, N) := Option.some.inj h
  cases h
  exact kk_gm 1092 (by decide +kernel) rfl
theorem lk_X11_40 : ∀ (C : String) (T : u_T) (N : Nat), vwCl[11]? = some (C, T, N) → Cond.fieldLink RX11 40 C (T 10).2.1 (T 10).2.2.1 ∈ kk_good := fun C T N h => by
  have h : (RX11, TX11, 31) = (C, T, N) := Option.some.inj h
  cases h
  exact kk_gm 1095 (by decide +kernel) rfl
theorem lk_X11_43 : ∀ (C : String) (T : u_T) (N : Nat), vwCl[11]? = some (C, T, N) → Cond.fieldLink RX11 43 C (T 13).2.1 (T 13).2.2.1 ∈ kk_good := fun C T N h => by
  have h : (RX11, TX11, 31) = (C, T, N) := Option.some.inj h
  cases h
  exact kk_gm 1098 (by decide +kernel) rfl
theorem lk_X11_46 : ∀ (C : String) (T : u_T) (N : Nat), vwCl[11]? = some (C, T, N) → Cond.fieldLink RX11 46 C (T 14).2.1 (T 14).2.2.1 ∈ kk_good := fun C T N h => by
  have h : (RX11, TX11, 31) = (C, T, N) := Option.some.inj h
  cases h
  exact kk_gm 1099 (by decide +kernel) rfl
theorem lk_X11_49 : ∀ (C : String) (T : u_T) (N : Nat), vwCl[11]? = some (C, T, N) → Cond.fieldLink RX11 49 C (T 15).2.1 (T 15).2.2.1 ∈ kk_good := fun C T N h => by
  have h : (RX11, TX11, 31) = (C, T, N) := Option.some.inj h
  cases h
  exact kk_gm 1100 (by decide +kernel) rfl
theorem lk_X11_52 : ∀ (C : String) (T : u_T) (N : Nat), vwCl[11]? = some (C, T, N) → Cond.fieldLink RX11 52 C (T 16).2.1 (T 16).2.2.1 ∈ kk_good := fun C T N h => by
  have h : (RX11, TX11, 31) = (C, T, N) := Option.some.inj h
  cases h
  exact kk_gm 1101 (by decide +kernel) rfl
theorem lk_X11_55 : ∀ (C : String) (T : u_T) (N : Nat), vwCl[11]? = some (C, T, N) → Cond.fieldLink RX11 55 C (T 18).2.1 (T 18).2.2.1 ∈ kk_good := fun C T N h => by
  have h : (RX11, TX11, 31) = (C, T, N) := Option.some.inj h
  cases h
  exact kk_gm 1103 (by decide +kernel) rfl
theorem lk_X11_58 : ∀ (C : String) (T : u_T) (N : Nat), vwCl[11]? = some (C, T, N) → Cond.fieldLink RX11 58 C (T 19).2.1 (T 19).2.2.1 ∈ kk_good := fun C T N h => by
  have h : (RX11, TX11, 31) = (C, T, N) := Option.some.inj h
  cases h
  exact kk_gm 1104 (by decide +kernel) rfl
theorem lk_X11_61 : ∀ (C : String) (T : u_T) (N : Nat), vwCl[11]? = some (C, T, N) → Cond.fieldLink RX11 61 C (T 20).2.1 (T 20).2.2.1 ∈ kk_good := fun C T N h => by
  have h : (RX11, TX11, 31) = (C, T, N) := Option.some.inj h
  cases h
  exact kk_gm 1105 (by decide +kernel) rfl
theorem lk_X11_64 : ∀ (C : String) (T : u_T) (N : Nat), vwCl[11]? = some (C, T, N) → Cond.fieldLink RX11 64 C (T 21).2.1 (T 21).2.2.1 ∈ kk_good := fun C T N h => by
  have h : (RX11, TX11, 31) = (C, T, N) := Option.some.inj h
  cases h
  exact kk_gm 1106 (by decide +kernel) rfl
theorem lk_X11_67 : ∀ (C : String) (T : u_T) (N : Nat), vwCl[11]? = some (C, T, N) → Cond.fieldLink RX11 67 C (T 22).2.1 (T 22).2.2.1 ∈ kk_good := fun C T N h => by
  have h : (RX11, TX11, 31) = (C, T, N) := Option.some.inj h
  cases h
  exact kk_gm 1107 (by decide +kernel) rfl
theorem lk_X11_70 : ∀ (C : String) (T : u_T) (N : Nat), vwCl[11]? = some (C, T, N) → Cond.fieldLink RX11 70 C (T 24).2.1 (T 24).2.2.1 ∈ kk_good := fun C T N h => by
  have h : (RX11, TX11, 31) = (C, T, N) := Option.some.inj h
  cases h
  exact kk_gm 1109 (by decide +kernel) rfl
theorem lk_X11_73 : ∀ (C : String) (T : u_T) (N : Nat), vwCl[11]? = some (C, T, N) → Cond.fieldLink RX11 73 C (T 25).2.1 (T 25).2.2.1 ∈ kk_good := fun C T N h => by
  have h : (RX11, TX11, 31) = (C, T, N) := Option.some.inj h
  cases h
  exact kk_gm 1110 (by decide +kernel) rfl
theorem lk_X11_77 : ∀ (C : String) (T : u_T) (N : Nat), vwCl[11]? = some (C, T, N) → Cond.fieldLink RX11 77 C (T 26).2.1 (T 26).2.2.1 ∈ kk_good := fun C T N h => by
  have h : (RX11, TX11, 31) = (C, T, N) := Option.some.inj h
  cases h
  exact kk_gm 1111 (by decide +kernel) rfl
theorem lk_X11_80 : ∀ (C : String) (T : u_T) (N : Nat), vwCl[11]? = some (C, T, N) → Cond.fieldLink RX11 80 C (T 27).2.1 (T 27).2.2.1 ∈ kk_good := fun C T N h => by
  have h : (RX11, TX11, 31) = (C, T, N) := Option.some.inj h
  cases h
  exact kk_gm 1112 (by decide +kernel) rfl
theorem lk_X11_83 : ∀ (C : String) (T : u_T) (N : Nat), vwCl[11]? = some (C, T, N) → Cond.fieldLink RX11 83 C (T 28).2.1 (T 28).2.2.1 ∈ kk_good := fun C T N h => by
  have h : (RX11, TX11, 31) = (C, T, N) := Option.some.inj h
  cases h
  exact kk_gm 1113 (by decide +kernel) rfl
theorem lk_X11_86 : ∀ (C : String) (T : u_T) (N : Nat), vwCl[11]? = some (C, T, N) → Cond.fieldLink RX11 86 C (T 29).2.1 (T 29).2.2.1 ∈ kk_good := fun C T N h => by
  have h : (RX11, TX11, 31) = (C, T, N) := Option.some.inj h
  cases h
  exact kk_gm 1114 (by decide +kernel) rfl
theorem lk_X11_89 : ∀ (C : String) (T : u_T) (N : Nat), vwCl[11]? = some (C, T, N) → Cond.fieldLink RX11 89 C (T 30).2.1 (T 30).2.2.1 ∈ kk_good := fun C T N h => by
  have h : (RX11, TX11, 31) = (C, T, N) := Option.some.inj h
  cases h
  exact kk_gm 1115 (by decide +kernel) rfl
theorem lk_X2_9 : ∀ (C : String) (T : u_T) (N : Nat), vwCl[2]? = some (C, T, N) → Cond.fieldLink RX2 9 C (T 0).2.1 (T 0).2.2.1 ∈ kk_good := fun C T N h => by
  have h : (RX2, TX2, 2) = (C, T, N) := Option.some.inj h
  cases h
  exact kk_gm 309 (by decide +kernel) rfl
theorem lk_X2_15 : ∀ (C : String) (T : u_T) (N : Nat), vwCl[2]? = some (C, T, N) → Cond.fieldLink RX2 15 C (T 1).2.1 (T 1).2.2.1 ∈ kk_good := fun C T N h => by
  have h : (RX2, TX2, 2) = (C, T, N) := Option.some.inj h
  cases h
  exact kk_gm 310 (by decide +kernel) rfl
theorem lk_X3_9 : ∀ (C : String) (T : u_T) (N : Nat), vwCl[3]? = some (C, T, N) → Cond.fieldLink RX3 9 C (T 1).2.1 (T 1).2.2.1 ∈ kk_good := fun C T N h => by
  have h : (RX3, TX3, 3) = (C, T, N) := Option.some.inj h
  cases h
  exact kk_gm 243 (by decide +kernel) rfl
theorem lk_X3_15 : ∀ (C : String) (T : u_T) (N : Nat), vwCl[3]? = some (C, T, N) → Cond.fieldLink RX3 15 C (T 2).2.1 (T 2).2.2.1 ∈ kk_good := fun C T N h => by
  have h : (RX3, TX3, 3) = (C, T, N) := Option.some.inj h
  cases h
  exact kk_gm 246 (by decide +kernel) rfl
theorem lk_X3_18 : ∀ (C : String) (T : u_T) (N : Nat), vwCl[3]? = some (C, T, N) → Cond.fieldLink RX3 18 C (T 0).2.1 (T 0).2.2.1 ∈ kk_good := fun C T N h => by
  have h : (RX3, TX3, 3) = (C, T, N) := Option.some.inj h
  cases h
  exact kk_gm 242 (by decide +kernel) rfl
theorem lk_X4_9 : ∀ (C : String) (T : u_T) (N : Nat), vwCl[4]? = some (C, T, N) → Cond.fieldLink RX4 9 C (T 2).2.1 (T 2).2.2.1 ∈ kk_good := fun C T N h => by
  have h : (RX4, TX4, 4) = (C, T, N) := Option.some.inj h
  cases h
  exact kk_gm 264 (by decide +kernel) rfl
theorem lk_X4_15 : ∀ (C : String) (T : u_T) (N : Nat), vwCl[4]? = some (C, T, N) → Cond.fieldLink RX4 15 C (T 3).2.1 (T 3).2.2.1 ∈ kk_good := fun C T N h => by
  have h : (RX4, TX4, 4) = (C, T, N) := Option.some.inj h
  cases h
  exact kk_gm 267 (by decide +kernel) rfl
theorem lk_X4_19 : ∀ (C : String) (T : u_T) (N : Nat), vwCl[4]? = some (C, T, N) → Cond.fieldLink RX4 19 C (T 0).2.1 (T 0).2.2.1 ∈ kk_good := fun C T N h => by
  have h : (RX4, TX4, 4) = (C, T, N) := Option.some.inj h
  cases h
  exact kk_gm 262 (by decide +kernel) rfl
theorem lk_X4_23 : ∀ (C : String) (T : u_T) (N : Nat), vwCl[4]? = some (C, T, N) → Cond.fieldLink RX4 23 C (T 1).2.1 (T 1).2.2.1 ∈ kk_good := fun C T N h => by
  have h : (RX4, TX4, 4) = (C, T, N) := Option.some.inj h
  cases h
  exact kk_gm 263 (by decide +kernel) rfl
theorem lk_X5_9 : ∀ (C : String) (T : u_T) (N : Nat), vwCl[5]? = some (C, T, N) → Cond.fieldLink RX5 9 C (T 3).2.1 (T 3).2.2.1 ∈ kk_good := fun C T N h => by
  have h : (RX5, TX5, 5) = (C, T, N) := Option.some.inj h
  cases h
  exact kk_gm 288 (by decide +kernel) rfl
theorem lk_X5_15 : ∀ (C : String) (T : u_T) (N : Nat), vwCl[5]? = some (C, T, N) → Cond.fieldLink RX5 15 C (T 4).2.1 (T 4).2.2.1 ∈ kk_good := fun C T N h => by
  have h : (RX5, TX5, 5) = (C, T, N) := Option.some.inj h
  cases h
  exact kk_gm 290 (by decide +kernel) rfl
theorem lk_X5_19 : ∀ (C : String) (T : u_T) (N : Nat), vwCl[5]? = some (C, T, N) → Cond.fieldLink RX5 19 C (T 0).2.1 (T 0).2.2.1 ∈ kk_good := fun C T N h => by
  have h : (RX5, TX5, 5) = (C, T, N) := Option.some.inj h
  cases h
  exact kk_gm 285 (by decide +kernel) rfl
theorem lk_X5_23 : ∀ (C : String) (T : u_T) (N : Nat), vwCl[5]? = some (C, T, N) → Cond.fieldLink RX5 23 C (T 1).2.1 (T 1).2.2.1 ∈ kk_good := fun C T N h => by
  have h : (RX5, TX5, 5) = (C, T, N) := Option.some.inj h
  cases h
  exact kk_gm 286 (by decide +kernel) rfl
theorem lk_X5_27 : ∀ (C : String) (T : u_T) (N : Nat), vwCl[5]? = some (C, T, N) → Cond.fieldLink RX5 27 C (T 2).2.1 (T 2).2.2.1 ∈ kk_good := fun C T N h => by
  have h : (RX5, TX5, 5) = (C, T, N) := Option.some.inj h
  cases h
  exact kk_gm 287 (by decide +kernel) rfl
theorem lk_X6_9 : ∀ (C : String) (T : u_T) (N : Nat), vwCl[6]? = some (C, T, N) → Cond.fieldLink RX6 9 C (T 0).2.1 (T 0).2.2.1 ∈ kk_good := fun C T N h => by
  have h : (RX6, TX6, 8) = (C, T, N) := Option.some.inj h
  cases h
  exact kk_gm 181 (by decide +kernel) rfl
theorem lk_X6_15 : ∀ (C : String) (T : u_T) (N : Nat), vwCl[6]? = some (C, T, N) → Cond.fieldLink RX6 15 C (T 1).2.1 (T 1).2.2.1 ∈ kk_good := fun C T N h => by
  have h : (RX6, TX6, 8) = (C, T, N) := Option.some.inj h
  cases h
  exact kk_gm 185 (by decide +kernel) rfl
theorem lk_X6_18 : ∀ (C : String) (T : u_T) (N : Nat), vwCl[6]? = some (C, T, N) → Cond.fieldLink RX6 18 C (T 2).2.1 (T 2).2.2.1 ∈ kk_good := fun C T N h => by
  have h : (RX6, TX6, 8) = (C, T, N) := Option.some.inj h
  cases h
  exact kk_gm 188 (by decide +kernel) rfl
theorem lk_X6_21 : ∀ (C : String) (T : u_T) (N : Nat), vwCl[6]? = some (C, T, N) → Cond.fieldLink RX6 21 C (T 3).2.1 (T 3).2.2.1 ∈ kk_good := fun C T N h => by
  have h : (RX6, TX6, 8) = (C, T, N) := Option.some.inj h
  cases h
  exact kk_gm 194 (by decide +kernel) rfl
theorem lk_X6_24 : ∀ (C : String) (T : u_T) (N : Nat), vwCl[6]? = some (C, T, N) → Cond.fieldLink RX6 24 C (T 4).2.1 (T 4).2.2.1 ∈ kk_good := fun C T N h => by
  have h : (RX6, TX6, 8) = (C, T, N) := Option.some.inj h
  cases h
  exact kk_gm 198 (by decide +kernel) rfl
theorem lk_X6_27 : ∀ (C : String) (T : u_T) (N : Nat), vwCl[6]? = some (C, T, N) → Cond.fieldLink RX6 27 C (T 5).2.1 (T 5).2.2.1 ∈ kk_good := fun C T N h => by
  have h : (RX6, TX6, 8) = (C, T, N) := Option.some.inj h
  cases h
  exact kk_gm 199 (by decide +kernel) rfl
theorem lk_X6_31 : ∀ (C : String) (T : u_T) (N : Nat), vwCl[6]? = some (C, T, N) → Cond.fieldLink RX6 31 C (T 6).2.1 (T 6).2.2.1 ∈ kk_good := fun C T N h => by
  have h : (RX6, TX6, 8) = (C, T, N) := Option.some.inj h
  cases h
  exact kk_gm 203 (by decide +kernel) rfl
theorem lk_X6_34 : ∀ (C : String) (T : u_T) (N : Nat), vwCl[6]? = some (C, T, N) → Cond.fieldLink RX6 34 C (T 7).2.1 (T 7).2.2.1 ∈ kk_good := fun C T N h => by
  have h : (RX6, TX6, 8) = (C, T, N) := Option.some.inj h
  cases h
  exact kk_gm 211 (by decide +kernel) rfl
theorem lk_X7_9 : ∀ (C : String) (T : u_T) (N : Nat), vwCl[7]? = some (C, T, N) → Cond.fieldLink RX7 9 C (T 1).2.1 (T 1).2.2.1 ∈ kk_good := fun C T N h => by
  have h : (RX7, TX7, 8) = (C, T, N) := Option.some.inj h
  cases h
  exact kk_gm 348 (by decide +kernel) rfl
theorem lk_X7_15 : ∀ (C : String) (T : u_T) (N : Nat), vwCl[7]? = some (C, T, N) → Cond.fieldLink RX7 15 C (T 2).2.1 (T 2).2.2.1 ∈ kk_good := fun C T N h => by
  have h : (RX7, TX7, 8) = (C, T, N) := Option.some.inj h
  cases h
  exact kk_gm 349 (by decide +kernel) rfl
theorem lk_X7_18 : ∀ (C : String) (T : u_T) (N : Nat), vwCl[7]? = some (C, T, N) → Cond.fieldLink RX7 18 C (T 3).2.1 (T 3).2.2.1 ∈ kk_good := fun C T N h => by
  have h : (RX7, TX7, 8) = (C, T, N) := Option.some.inj h
  cases h
  exact kk_gm 350 (by decide +kernel) rfl
theorem lk_X7_21 : ∀ (C : String) (T : u_T) (N : Nat), vwCl[7]? = some (C, T, N) → Cond.fieldLink RX7 21 C (T 4).2.1 (T 4).2.2.1 ∈ kk_good := fun C T N h => by
  have h : (RX7, TX7, 8) = (C, T, N) := Option.some.inj h
  cases h
  exact kk_gm 352 (by decide +kernel) rfl
theorem lk_X7_25 : ∀ (C : String) (T : u_T) (N : Nat), vwCl[7]? = some (C, T, N) → Cond.fieldLink RX7 25 C (T 5).2.1 (T 5).2.2.1 ∈ kk_good := fun C T N h => by
  have h : (RX7, TX7, 8) = (C, T, N) := Option.some.inj h
  cases h
  exact kk_gm 353 (by decide +kernel) rfl
theorem lk_X7_29 : ∀ (C : String) (T : u_T) (N : Nat), vwCl[7]? = some (C, T, N) → Cond.fieldLink RX7 29 C (T 6).2.1 (T 6).2.2.1 ∈ kk_good := fun C T N h => by
  have h : (RX7, TX7, 8) = (C, T, N) := Option.some.inj h
  cases h
  exact kk_gm 354 (by decide +kernel) rfl
theorem lk_X7_32 : ∀ (C : String) (T : u_T) (N : Nat), vwCl[7]? = some (C, T, N) → Cond.fieldLink RX7 32 C (T 7).2.1 (T 7).2.2.1 ∈ kk_good := fun C T N h => by
  have h : (RX7, TX7, 8) = (C, T, N) := Option.some.inj h
  cases h
  exact kk_gm 355 (by decide +kernel) rfl
theorem lk_X7_35 : ∀ (C : String) (T : u_T) (N : Nat), vwCl[7]? = some (C, T, N) → Cond.fieldLink RX7 35 C (T 0).2.1 (T 0).2.2.1 ∈ kk_good := fun C T N h => by
  have h : (RX7, TX7, 8) = (C, T, N) := Option.some.inj h
  cases h
  exact kk_gm 347 (by decide +kernel) rfl
theorem lk_X8_9 : ∀ (C : String) (T : u_T) (N : Nat), vwCl[8]? = some (C, T, N) → Cond.fieldLink RX8 9 C (T 1).2.1 (T 1).2.2.1 ∈ kk_good := fun C T N h => by
  have h : (RX8, TX8, 3) = (C, T, N) := Option.some.inj h
  cases h
  exact kk_gm 398 (by decide +kernel) rfl
theorem lk_X8_15 : ∀ (C : String) (T : u_T) (N : Nat), vwCl[8]? = some (C, T, N) → Cond.fieldLink RX8 15 C (T 2).2.1 (T 2).2.2.1 ∈ kk_good := fun C T N h => by
  have h : (RX8, TX8, 3) = (C, T, N) := Option.some.inj h
  cases h
  exact kk_gm 399 (by decide +kernel) rfl
theorem lk_X8_18 : ∀ (C : String) (T : u_T) (N : Nat), vwCl[8]? = some (C, T, N) → Cond.fieldLink RX8 18 C (T 0).2.1 (T 0).2.2.1 ∈ kk_good := fun C T N h => by
  have h : (RX8, TX8, 3) = (C, T, N) := Option.some.inj h
  cases h
  exact kk_gm 397 (by decide +kernel) rfl
theorem lk_X9_11 : ∀ (C : String) (T : u_T) (N : Nat), vwCl[9]? = some (C, T, N) → Cond.fieldLink RX9 11 C (T 1).2.1 (T 1).2.2.1 ∈ kk_good := fun C T N h => by
  have h : (RX9, TX9, 7) = (C, T, N) := Option.some.inj h
  cases h
  exact kk_gm 414 (by decide +kernel) rfl
theorem lk_X9_15 : ∀ (C : String) (T : u_T) (N : Nat), vwCl[9]? = some (C, T, N) → Cond.fieldLink RX9 15 C (T 2).2.1 (T 2).2.2.1 ∈ kk_good := fun C T N h => by
  have h : (RX9, TX9, 7) = (C, T, N) := Option.some.inj h
  cases h
  exact kk_gm 415 (by decide +kernel) rfl
theorem lk_X9_18 : ∀ (C : String) (T : u_T) (N : Nat), vwCl[9]? = some (C, T, N) → Cond.fieldLink RX9 18 C (T 3).2.1 (T 3).2.2.1 ∈ kk_good := fun C T N h => by
  have h : (RX9, TX9, 7) = (C, T, N) := Option.some.inj h
  cases h
  exact kk_gm 416 (by decide +kernel) rfl
theorem lk_X9_21 : ∀ (C : String) (T : u_T) (N : Nat), vwCl[9]? = some (C, T, N) → Cond.fieldLink RX9 21 C (T 4).2.1 (T 4).2.2.1 ∈ kk_good := fun C T N h => by
  have h : (RX9, TX9, 7) = (C, T, N) := Option.some.inj h
  cases h
  exact kk_gm 417 (by decide +kernel) rfl
theorem lk_X9_24 : ∀ (C : String) (T : u_T) (N : Nat), vwCl[9]? = some (C, T, N) → Cond.fieldLink RX9 24 C (T 5).2.1 (T 5).2.2.1 ∈ kk_good := fun C T N h => by
  have h : (RX9, TX9, 7) = (C, T, N) := Option.some.inj h
  cases h
  exact kk_gm 418 (by decide +kernel) rfl
theorem lk_X9_28 : ∀ (C : String) (T : u_T) (N : Nat), vwCl[9]? = some (C, T, N) → Cond.fieldLink RX9 28 C (T 6).2.1 (T 6).2.2.1 ∈ kk_good := fun C T N h => by
  have h : (RX9, TX9, 7) = (C, T, N) := Option.some.inj h
  cases h
  exact kk_gm 419 (by decide +kernel) rfl
theorem lk_X9_31 : ∀ (C : String) (T : u_T) (N : Nat), vwCl[9]? = some (C, T, N) → Cond.fieldLink RX9 31 C (T 0).2.1 (T 0).2.2.1 ∈ kk_good := fun C T N h => by
  have h : (RX9, TX9, 7) = (C, T, N) := Option.some.inj h
  cases h
  exact kk_gm 413 (by decide +kernel) rfl
theorem dv_X6 : ∀ j, j < 8 → defaultValue (tyX6 j) = vp_V [.null, .null, .null, .null, .null, .int 0, .int 0, .int 0] j := fun j hj => by
  have key : ∀ j : Fin 8, defaultValue (tyX6 j.val) = vp_V [.null, .null, .null, .null, .null, .int 0, .int 0, .int 0] j.val := by decide
  exact key ⟨j, hj⟩
theorem dv_X3 : ∀ j, j < 3 → defaultValue (tyX3 j) = vp_V [.null, .null, .null] j := fun j hj => by
  have key : ∀ j : Fin 3, defaultValue (tyX3 j.val) = vp_V [.null, .null, .null] j.val := by decide
  exact key ⟨j, hj⟩
theorem dv_X4 : ∀ j, j < 4 → defaultValue (tyX4 j) = vp_V [.null, .null, .null, .int 0] j := fun j hj => by
  have key : ∀ j : Fin 4, defaultValue (tyX4 j.val) = vp_V [.null, .null, .null, .int 0] j.val := by decide
  exact key ⟨j, hj⟩
theorem dv_X5 : ∀ j, j < 5 → defaultValue (tyX5 j) = vp_V [.null, .null, .null, .null, .int 0] j := fun j hj => by
  have key : ∀ j : Fin 5, defaultValue (tyX5 j.val) = vp_V [.null, .null, .null, .null, .int 0] j.val := by decide
  exact key ⟨j, hj⟩
theorem dv_X2 : ∀ j, j < 2 → defaultValue (tyX2 j) = vp_V [.null, .null] j := fun j hj => by
  have key : ∀ j : Fin 2, defaultValue (tyX2 j.val) = vp_V [.null, .null] j.val := by decide
  exact key ⟨j, hj⟩
theorem dv_X1 : ∀ j, j < 5 → defaultValue (tyX1 j) = vp_V [.null, .null, .int 0, .int 0, .int 0] j := fun j hj => by
  have key : ∀ j : Fin 5, defaultValue (tyX1 j.val) = vp_V [.null, .null, .int 0, .int 0, .int 0] j.val := by decide
  exact key ⟨j, hj⟩
theorem dv_X7 : ∀ j, j < 8 → defaultValue (tyX7 j) = vp_V [.null, .null, .null, .null, .int 0, .int 0, .int 0, .int 0] j := fun j hj => by
  have key : ∀ j : Fin 8, defaultValue (tyX7 j.val) = vp_V [.null, .null, .null, .null, .int 0, .int 0, .int 0, .int 0] j.val := by decide
  exact key ⟨j, hj⟩
theorem dv_X0 : ∀ j, j < 3 → defaultValue (tyX0 j) = vp_V [.null, .null, .null] j := fun j hj => by
  have key : ∀ j : Fin 3, defaultValue (tyX0 j.val) = vp_V [.null, .null, .null] j.val := by decide
  exact key ⟨j, hj⟩
theorem dv_X8 : ∀ j, j < 3 → defaultValue (tyX8 j) = vp_V [.null, .null, .null] j := fun j hj => by
  have key : ∀ j : Fin 3, defaultValue (tyX8 j.val) = vp_V [.null, .null, .null] j.val := by decide
  exact key ⟨j, hj⟩
theorem dv_X9 : ∀ j, j < 7 → defaultValue (tyX9 j) = vp_V [.null, .null, .null, .null, .null, .int 0, .int 0] j := fun j hj => by
  have key : ∀ j : Fin 7, defaultValue (tyX9 j.val) = vp_V [.null, .null, .null, .null, .null, .int 0, .int 0] j.val := by decide
  exact key ⟨j, hj⟩
theorem dv_X10 : ∀ j, j < 13 → defaultValue (tyX10 j) = vp_V [.null, .null, .null, .null, .null, .null, .null, .null, .null, .null, .null, .null, .int 0] j := fun j hj => by
  have key : ∀ j : Fin 13, defaultValue (tyX10 j.val) = vp_V [.null, .null, .null, .null, .null, .null, .null, .null, .null, .null, .null, .null, .int 0] j.val := by decide
  exact key ⟨j, hj⟩
theorem dv_X11 : ∀ j, j < 31 → defaultValue (tyX11 j) = vp_V [.int 0, .int 0, .int 0, .null, .null, .null, .null, .null, .int 0, .int 0, .null, .int 0, .int 0, .null, .null, .null, .null, .int 0, .null, .null, .null, .null, .null, .int 0, .null, .null, .null, .null, .null, .null, .null] j := fun j hj => by
  have key : ∀ j : Fin 31, defaultValue (tyX11 j.val) = vp_V [.int 0, .int 0, .int 0, .null, .null, .null, .null, .null, .int 0, .int 0, .null, .int 0, .int 0, .null, .null, .null, .null, .int 0, .null, .null, .null, .null, .null, .int 0, .null, .null, .null, .null, .null, .null, .null] j.val := by decide
  exact key ⟨j, hj⟩
theorem il_X10_9 : ct_ML RX10 9 yX6_init cX6_init 1 0 := ⟨kk_gm 179 (by decide +kernel) rfl, kk_gm 152 (by decide +kernel) rfl, by decide +kernel, rfl, kk_gm 178 (by decide +kernel) rfl, Or.inr ⟨"LineColours", kk_nm 177 (by decide +kernel) rfl⟩⟩
theorem il_X10_18 : ct_ML RX10 18 yX3_init cX3_init 2 1 := ⟨kk_gm 237 (by decide +kernel) rfl, kk_gm 153 (by decide +kernel) rfl, by decide +kernel, rfl, kk_gm 236 (by decide +kernel) rfl, Or.inr ⟨"LineColours", kk_nm 235 (by decide +kernel) rfl⟩⟩
theorem il_X10_27 : ct_ML RX10 27 yX4_init cX4_init 3 2 := ⟨kk_gm 260 (by decide +kernel) rfl, kk_gm 155 (by decide +kernel) rfl, by decide +kernel, rfl, kk_gm 259 (by decide +kernel) rfl, Or.inr ⟨"LineColours", kk_nm 258 (by decide +kernel) rfl⟩⟩
theorem il_X10_36 : ct_ML RX10 36 yX5_init cX5_init 4 3 := ⟨kk_gm 283 (by decide +kernel) rfl, kk_gm 156 (by decide +kernel) rfl, by decide +kernel, rfl, kk_gm 282 (by decide +kernel) rfl, Or.inr ⟨"LineColours", kk_nm 281 (by decide +kernel) rfl⟩⟩
theorem il_X10_45 : ct_ML RX10 45 yX2_init cX2_init 3 2 := ⟨kk_gm 307 (by decide +kernel) rfl, kk_gm 157 (by decide +kernel) rfl, by decide +kernel, rfl, kk_gm 306 (by decide +kernel) rfl, Or.inr ⟨"LineColours", kk_nm 305 (by decide +kernel) rfl⟩⟩
theorem il_X10_52 : ct_ML RX10 52 yX1_init cX1_init 3 2 := ⟨kk_gm 320 (by decide +kernel) rfl, kk_gm 158 (by decide +kernel) rfl, by decide +kernel, rfl, kk_gm 319 (by decide +kernel) rfl, Or.inr ⟨"LineColours", kk_nm 318 (by decide +kernel) rfl⟩⟩
theorem il_X10_59 : ct_ML RX10 59 yX7_init cX7_init 2 1 := ⟨kk_gm 345 (by decide +kernel) rfl, kk_gm 159 (by decide +kernel) rfl, by decide +kernel, rfl, kk_gm 344 (by decide +kernel) rfl, Or.inr ⟨"LineColours", kk_nm 343 (by decide +kernel) rfl⟩⟩
theorem il_X10_66 : ct_ML RX10 66 yX0_init cX0_init 2 1 := ⟨kk_gm 377 (by decide +kernel) rfl, kk_gm 160 (by decide +kernel) rfl, by decide +kernel, rfl, kk_gm 376 (by decide +kernel) rfl, Or.inr ⟨"LineColours", kk_nm 375 (by decide +kernel) rfl⟩⟩
theorem il_X10_73 : ct_ML RX10 73 yX8_init cX8_init 2 1 := ⟨kk_gm 395 (by decide +kernel) rfl, kk_gm 161 (by decide +kernel) rfl, by decide +kernel, rfl, kk_gm 394 (by decide +kernel) rfl, Or.inr ⟨"LineColours", kk_nm 393 (by decide +kernel) rfl⟩⟩
theorem il_X10_80 : ct_ML RX10 80 yX9_init cX9_init 2 1 := ⟨kk_gm 411 (by decide +kernel) rfl, kk_gm 162 (by decide +kernel) rfl, by decide +kernel, rfl, kk_gm 410 (by decide +kernel) rfl, Or.inr ⟨"LineColours", kk_nm 409 (by decide +kernel) rfl⟩⟩
theorem e_X6_init_0 : kk_d cX6_init 0 (.aload_n 0) 1 1 := ⟨by decide +kernel, rfl⟩
theorem e_X6_init_1 : kk_d cX6_init 1 (.invokespecial 3) 3 4 := ⟨by decide +kernel, rfl⟩
theorem e_X6_init_4 : kk_d cX6_init 4 (.aload_n 0) 1 5 := ⟨by decide +kernel, rfl⟩
theorem e_X6_init_5 : kk_d cX6_init 5 (.bipush 20) 2 7 := ⟨by decide +kernel, rfl⟩
theorem e_X6_init_7 : kk_d cX6_init 7 (.newarray .int) 2 9 := ⟨by decide +kernel, rfl⟩
theorem e_X6_init_9 : kk_d cX6_init 9 (.putfield 9) 3 12 := ⟨by decide +kernel, rfl⟩
theorem e_X6_init_12 : kk_d cX6_init 12 (.aload_n 0) 1 13 := ⟨by decide +kernel, rfl⟩
theorem e_X6_init_13 : kk_d cX6_init 13 (.bipush 20) 2 15 := ⟨by decide +kernel, rfl⟩
theorem e_X6_init_15 : kk_d cX6_init 15 (.newarray .int) 2 17 := ⟨by decide +kernel, rfl⟩
theorem e_X6_init_17 : kk_d cX6_init 17 (.putfield 15) 3 20 := ⟨by decide +kernel, rfl⟩
theorem e_X6_init_20 : kk_d cX6_init 20 (.aload_n 0) 1 21 := ⟨by decide +kernel, rfl⟩
theorem e_X6_init_21 : kk_d cX6_init 21 (.bipush 20) 2 23 := ⟨by decide +kernel, rfl⟩
theorem e_X6_init_23 : kk_d cX6_init 23 (.newarray .int) 2 25 := ⟨by decide +kernel, rfl⟩
theorem e_X6_init_25 : kk_d cX6_init 25 (.putfield 18) 3 28 := ⟨by decide +kernel, rfl⟩
theorem e_X6_init_28 : kk_d cX6_init 28 (.aload_n 0) 1 29 := ⟨by decide +kernel, rfl⟩
theorem e_X6_init_29 : kk_d cX6_init 29 (.bipush 9) 2 31 := ⟨by decide +kernel, rfl⟩
theorem e_X6_init_31 : kk_d cX6_init 31 (.newarray .int) 2 33 := ⟨by decide +kernel, rfl⟩
theorem e_X6_init_33 : kk_d cX6_init 33 (.putfield 21) 3 36 := ⟨by decide +kernel, rfl⟩
theorem e_X6_init_36 : kk_d cX6_init 36 (.aload_n 0) 1 37 := ⟨by decide +kernel, rfl⟩
theorem e_X6_init_37 : kk_d cX6_init 37 (.bipush 9) 2 39 := ⟨by decide +kernel, rfl⟩
theorem e_X6_init_39 : kk_d cX6_init 39 (.newarray .int) 2 41 := ⟨by decide +kernel, rfl⟩
theorem e_X6_init_41 : kk_d cX6_init 41 (.putfield 24) 3 44 := ⟨by decide +kernel, rfl⟩
theorem e_X6_init_44 : kk_d cX6_init 44 (.aload_n 0) 1 45 := ⟨by decide +kernel, rfl⟩
theorem e_X6_init_45 : kk_d cX6_init 45 (.iconst 1) 1 46 := ⟨by decide +kernel, rfl⟩
theorem e_X6_init_46 : kk_d cX6_init 46 (.putfield 27) 3 49 := ⟨by decide +kernel, rfl⟩
theorem e_X6_init_49 : kk_d cX6_init 49 (.aload_n 0) 1 50 := ⟨by decide +kernel, rfl⟩
theorem e_X6_init_50 : kk_d cX6_init 50 (.iconst 0) 1 51 := ⟨by decide +kernel, rfl⟩
theorem e_X6_init_51 : kk_d cX6_init 51 (.putfield 31) 3 54 := ⟨by decide +kernel, rfl⟩
theorem e_X6_init_54 : kk_d cX6_init 54 (.aload_n 0) 1 55 := ⟨by decide +kernel, rfl⟩
theorem e_X6_init_55 : kk_d cX6_init 55 (.iconst 0) 1 56 := ⟨by decide +kernel, rfl⟩
theorem e_X6_init_56 : kk_d cX6_init 56 (.putfield 34) 3 59 := ⟨by decide +kernel, rfl⟩
theorem e_X6_init_59 : kk_d cX6_init 59 .return_ 1 60 := ⟨by decide +kernel, rfl⟩
theorem e_X3_init_0 : kk_d cX3_init 0 (.aload_n 0) 1 1 := ⟨by decide +kernel, rfl⟩
theorem e_X3_init_1 : kk_d cX3_init 1 (.invokespecial 3) 3 4 := ⟨by decide +kernel, rfl⟩
theorem e_X3_init_4 : kk_d cX3_init 4 (.aload_n 0) 1 5 := ⟨by decide +kernel, rfl⟩
theorem e_X3_init_5 : kk_d cX3_init 5 (.bipush 20) 2 7 := ⟨by decide +kernel, rfl⟩
theorem e_X3_init_7 : kk_d cX3_init 7 (.newarray .int) 2 9 := ⟨by decide +kernel, rfl⟩
theorem e_X3_init_9 : kk_d cX3_init 9 (.putfield 9) 3 12 := ⟨by decide +kernel, rfl⟩
theorem e_X3_init_12 : kk_d cX3_init 12 (.aload_n 0) 1 13 := ⟨by decide +kernel, rfl⟩
theorem e_X3_init_13 : kk_d cX3_init 13 (.bipush 9) 2 15 := ⟨by decide +kernel, rfl⟩
theorem e_X3_init_15 : kk_d cX3_init 15 (.newarray .int) 2 17 := ⟨by decide +kernel, rfl⟩
theorem e_X3_init_17 : kk_d cX3_init 17 (.putfield 15) 3 20 := ⟨by decide +kernel, rfl⟩
theorem e_X3_init_20 : kk_d cX3_init 20 (.aload_n 0) 1 21 := ⟨by decide +kernel, rfl⟩
theorem e_X3_init_21 : kk_d cX3_init 21 (.aload_n 1) 1 22 := ⟨by decide +kernel, rfl⟩
theorem e_X3_init_22 : kk_d cX3_init 22 (.putfield 18) 3 25 := ⟨by decide +kernel, rfl⟩
theorem e_X3_init_25 : kk_d cX3_init 25 (.aload_n 0) 1 26 := ⟨by decide +kernel, rfl⟩
theorem e_X3_init_26 : kk_d cX3_init 26 (.getfield 9) 3 29 := ⟨by decide +kernel, rfl⟩
theorem e_X3_init_29 : kk_d cX3_init 29 (.iconst (-1)) 1 30 := ⟨by decide +kernel, rfl⟩
theorem e_X3_init_30 : kk_d cX3_init 30 (.invokestatic 22) 3 33 := ⟨by decide +kernel, rfl⟩
theorem e_X3_init_33 : kk_d cX3_init 33 .return_ 1 34 := ⟨by decide +kernel, rfl⟩
theorem e_X4_init_0 : kk_d cX4_init 0 (.aload_n 0) 1 1 := ⟨by decide +kernel, rfl⟩
theorem e_X4_init_1 : kk_d cX4_init 1 (.invokespecial 3) 3 4 := ⟨by decide +kernel, rfl⟩
theorem e_X4_init_4 : kk_d cX4_init 4 (.aload_n 0) 1 5 := ⟨by decide +kernel, rfl⟩
theorem e_X4_init_5 : kk_d cX4_init 5 (.bipush 9) 2 7 := ⟨by decide +kernel, rfl⟩
theorem e_X4_init_7 : kk_d cX4_init 7 (.newarray .int) 2 9 := ⟨by decide +kernel, rfl⟩
theorem e_X4_init_9 : kk_d cX4_init 9 (.putfield 9) 3 12 := ⟨by decide +kernel, rfl⟩
theorem e_X4_init_12 : kk_d cX4_init 12 (.aload_n 0) 1 13 := ⟨by decide +kernel, rfl⟩
theorem e_X4_init_13 : kk_d cX4_init 13 (.iconst 0) 1 14 := ⟨by decide +kernel, rfl⟩
theorem e_X4_init_14 : kk_d cX4_init 14 (.putfield 15) 3 17 := ⟨by decide +kernel, rfl⟩
theorem e_X4_init_17 : kk_d cX4_init 17 (.aload_n 0) 1 18 := ⟨by decide +kernel, rfl⟩
theorem e_X4_init_18 : kk_d cX4_init 18 (.aload_n 1) 1 19 := ⟨by decide +kernel, rfl⟩
theorem e_X4_init_19 : kk_d cX4_init 19 (.putfield 19) 3 22 := ⟨by decide +kernel, rfl⟩
theorem e_X4_init_22 : kk_d cX4_init 22 (.aload_n 0) 1 23 := ⟨by decide +kernel, rfl⟩
theorem e_X4_init_23 : kk_d cX4_init 23 (.aload_n 2) 1 24 := ⟨by decide +kernel, rfl⟩
theorem e_X4_init_24 : kk_d cX4_init 24 (.putfield 23) 3 27 := ⟨by decide +kernel, rfl⟩
theorem e_X4_init_27 : kk_d cX4_init 27 .return_ 1 28 := ⟨by decide +kernel, rfl⟩
theorem e_X5_init_0 : kk_d cX5_init 0 (.aload_n 0) 1 1 := ⟨by decide +kernel, rfl⟩
theorem e_X5_init_1 : kk_d cX5_init 1 (.invokespecial 3) 3 4 := ⟨by decide +kernel, rfl⟩
theorem e_X5_init_4 : kk_d cX5_init 4 (.aload_n 0) 1 5 := ⟨by decide +kernel, rfl⟩
theorem e_X5_init_5 : kk_d cX5_init 5 (.iconst 5) 1 6 := ⟨by decide +kernel, rfl⟩
theorem e_X5_init_6 : kk_d cX5_init 6 (.newarray .int) 2 8 := ⟨by decide +kernel, rfl⟩
theorem e_X5_init_8 : kk_d cX5_init 8 (.putfield 9) 3 11 := ⟨by decide +kernel, rfl⟩
theorem e_X5_init_11 : kk_d cX5_init 11 (.aload_n 0) 1 12 := ⟨by decide +kernel, rfl⟩
theorem e_X5_init_12 : kk_d cX5_init 12 (.iconst 0) 1 13 := ⟨by decide +kernel, rfl⟩
theorem e_X5_init_13 : kk_d cX5_init 13 (.putfield 15) 3 16 := ⟨by decide +kernel, rfl⟩
theorem e_X5_init_16 : kk_d cX5_init 16 (.aload_n 0) 1 17 := ⟨by decide +kernel, rfl⟩
theorem e_X5_init_17 : kk_d cX5_init 17 (.aload_n 1) 1 18 := ⟨by decide +kernel, rfl⟩
theorem e_X5_init_18 : kk_d cX5_init 18 (.putfield 19) 3 21 := ⟨by decide +kernel, rfl⟩
theorem e_X5_init_21 : kk_d cX5_init 21 (.aload_n 0) 1 22 := ⟨by decide +kernel, rfl⟩
theorem e_X5_init_22 : kk_d cX5_init 22 (.aload_n 2) 1 23 := ⟨by decide +kernel, rfl⟩
theorem e_X5_init_23 : kk_d cX5_init 23 (.putfield 23) 3 26 := ⟨by decide +kernel, rfl⟩
theorem e_X5_init_26 : kk_d cX5_init 26 (.aload_n 0) 1 27 := ⟨by decide +kernel, rfl⟩
theorem e_X5_init_27 : kk_d cX5_init 27 (.aload_n 3) 1 28 := ⟨by decide +kernel, rfl⟩
theorem e_X5_init_28 : kk_d cX5_init 28 (.putfield 27) 3 31 := ⟨by decide +kernel, rfl⟩
theorem e_X5_init_31 : kk_d cX5_init 31 .return_ 1 32 := ⟨by decide +kernel, rfl⟩
theorem e_X2_init_0 : kk_d cX2_init 0 (.aload_n 0) 1 1 := ⟨by decide +kernel, rfl⟩
theorem e_X2_init_1 : kk_d cX2_init 1 (.invokespecial 3) 3 4 := ⟨by decide +kernel, rfl⟩
theorem e_X2_init_4 : kk_d cX2_init 4 (.aload_n 0) 1 5 := ⟨by decide +kernel, rfl⟩
theorem e_X2_init_5 : kk_d cX2_init 5 (.aload_n 1) 1 6 := ⟨by decide +kernel, rfl⟩
theorem e_X2_init_6 : kk_d cX2_init 6 (.putfield 9) 3 9 := ⟨by decide +kernel, rfl⟩
theorem e_X2_init_9 : kk_d cX2_init 9 (.aload_n 0) 1 10 := ⟨by decide +kernel, rfl⟩
theorem e_X2_init_10 : kk_d cX2_init 10 (.aload_n 2) 1 11 := ⟨by decide +kernel, rfl⟩
theorem e_X2_init_11 : kk_d cX2_init 11 (.putfield 15) 3 14 := ⟨by decide +kernel, rfl⟩
theorem e_X2_init_14 : kk_d cX2_init 14 .return_ 1 15 := ⟨by decide +kernel, rfl⟩
theorem e_X1_init_0 : kk_d cX1_init 0 (.aload_n 0) 1 1 := ⟨by decide +kernel, rfl⟩
theorem e_X1_init_1 : kk_d cX1_init 1 (.invokespecial 1) 3 4 := ⟨by decide +kernel, rfl⟩
theorem e_X1_init_4 : kk_d cX1_init 4 (.aload_n 0) 1 5 := ⟨by decide +kernel, rfl⟩
theorem e_X1_init_5 : kk_d cX1_init 5 (.iconst 0) 1 6 := ⟨by decide +kernel, rfl⟩
theorem e_X1_init_6 : kk_d cX1_init 6 (.putfield 7) 3 9 := ⟨by decide +kernel, rfl⟩
theorem e_X1_init_9 : kk_d cX1_init 9 (.aload_n 0) 1 10 := ⟨by decide +kernel, rfl⟩
theorem e_X1_init_10 : kk_d cX1_init 10 (.iconst 0) 1 11 := ⟨by decide +kernel, rfl⟩
theorem e_X1_init_11 : kk_d cX1_init 11 (.putfield 13) 3 14 := ⟨by decide +kernel, rfl⟩
theorem e_X1_init_14 : kk_d cX1_init 14 (.aload_n 0) 1 15 := ⟨by decide +kernel, rfl⟩
theorem e_X1_init_15 : kk_d cX1_init 15 (.iconst 0) 1 16 := ⟨by decide +kernel, rfl⟩
theorem e_X1_init_16 : kk_d cX1_init 16 (.putfield 16) 3 19 := ⟨by decide +kernel, rfl⟩
theorem e_X1_init_19 : kk_d cX1_init 19 (.aload_n 0) 1 20 := ⟨by decide +kernel, rfl⟩
theorem e_X1_init_20 : kk_d cX1_init 20 (.aload_n 1) 1 21 := ⟨by decide +kernel, rfl⟩
theorem e_X1_init_21 : kk_d cX1_init 21 (.putfield 19) 3 24 := ⟨by decide +kernel, rfl⟩
theorem e_X1_init_24 : kk_d cX1_init 24 (.aload_n 0) 1 25 := ⟨by decide +kernel, rfl⟩
theorem e_X1_init_25 : kk_d cX1_init 25 (.aload_n 2) 1 26 := ⟨by decide +kernel, rfl⟩
theorem e_X1_init_26 : kk_d cX1_init 26 (.putfield 23) 3 29 := ⟨by decide +kernel, rfl⟩
theorem e_X1_init_29 : kk_d cX1_init 29 .return_ 1 30 := ⟨by decide +kernel, rfl⟩
theorem e_X7_init_0 : kk_d cX7_init 0 (.aload_n 0) 1 1 := ⟨by decide +kernel, rfl⟩
theorem e_X7_init_1 : kk_d cX7_init 1 (.invokespecial 3) 3 4 := ⟨by decide +kernel, rfl⟩
theorem e_X7_init_4 : kk_d cX7_init 4 (.aload_n 0) 1 5 := ⟨by decide +kernel, rfl⟩
theorem e_X7_init_5 : kk_d cX7_init 5 (.bipush 9) 2 7 := ⟨by decide +kernel, rfl⟩
theorem e_X7_init_7 : kk_d cX7_init 7 (.newarray .int) 2 9 := ⟨by decide +kernel, rfl⟩
theorem e_X7_init_9 : kk_d cX7_init 9 (.putfield 9) 3 12 := ⟨by decide +kernel, rfl⟩
theorem e_X7_init_12 : kk_d cX7_init 12 (.aload_n 0) 1 13 := ⟨by decide +kernel, rfl⟩
theorem e_X7_init_13 : kk_d cX7_init 13 (.bipush 20) 2 15 := ⟨by decide +kernel, rfl⟩
theorem e_X7_init_15 : kk_d cX7_init 15 (.newarray .int) 2 17 := ⟨by decide +kernel, rfl⟩
theorem e_X7_init_17 : kk_d cX7_init 17 (.putfield 15) 3 20 := ⟨by decide +kernel, rfl⟩
theorem e_X7_init_20 : kk_d cX7_init 20 (.aload_n 0) 1 21 := ⟨by decide +kernel, rfl⟩
theorem e_X7_init_21 : kk_d cX7_init 21 (.bipush 20) 2 23 := ⟨by decide +kernel, rfl⟩
theorem e_X7_init_23 : kk_d cX7_init 23 (.newarray .int) 2 25 := ⟨by decide +kernel, rfl⟩
theorem e_X7_init_25 : kk_d cX7_init 25 (.putfield 18) 3 28 := ⟨by decide +kernel, rfl⟩
theorem e_X7_init_28 : kk_d cX7_init 28 (.aload_n 0) 1 29 := ⟨by decide +kernel, rfl⟩
theorem e_X7_init_29 : kk_d cX7_init 29 (.iconst (-1)) 1 30 := ⟨by decide +kernel, rfl⟩
theorem e_X7_init_30 : kk_d cX7_init 30 (.putfield 21) 3 33 := ⟨by decide +kernel, rfl⟩
theorem e_X7_init_33 : kk_d cX7_init 33 (.aload_n 0) 1 34 := ⟨by decide +kernel, rfl⟩
theorem e_X7_init_34 : kk_d cX7_init 34 (.iconst 0) 1 35 := ⟨by decide +kernel, rfl⟩
theorem e_X7_init_35 : kk_d cX7_init 35 (.putfield 25) 3 38 := ⟨by decide +kernel, rfl⟩
theorem e_X7_init_38 : kk_d cX7_init 38 (.aload_n 0) 1 39 := ⟨by decide +kernel, rfl⟩
theorem e_X7_init_39 : kk_d cX7_init 39 (.iconst (-1)) 1 40 := ⟨by decide +kernel, rfl⟩
theorem e_X7_init_40 : kk_d cX7_init 40 (.putfield 29) 3 43 := ⟨by decide +kernel, rfl⟩
theorem e_X7_init_43 : kk_d cX7_init 43 (.aload_n 0) 1 44 := ⟨by decide +kernel, rfl⟩
theorem e_X7_init_44 : kk_d cX7_init 44 (.iconst (-1)) 1 45 := ⟨by decide +kernel, rfl⟩
theorem e_X7_init_45 : kk_d cX7_init 45 (.putfield 32) 3 48 := ⟨by decide +kernel, rfl⟩
theorem e_X7_init_48 : kk_d cX7_init 48 (.aload_n 0) 1 49 := ⟨by decide +kernel, rfl⟩
theorem e_X7_init_49 : kk_d cX7_init 49 (.aload_n 1) 1 50 := ⟨by decide +kernel, rfl⟩
theorem e_X7_init_50 : kk_d cX7_init 50 (.putfield 35) 3 53 := ⟨by decide +kernel, rfl⟩
theorem e_X7_init_53 : kk_d cX7_init 53 .return_ 1 54 := ⟨by decide +kernel, rfl⟩
theorem e_X0_init_0 : kk_d cX0_init 0 (.aload_n 0) 1 1 := ⟨by decide +kernel, rfl⟩
theorem e_X0_init_1 : kk_d cX0_init 1 (.invokespecial 3) 3 4 := ⟨by decide +kernel, rfl⟩
theorem e_X0_init_4 : kk_d cX0_init 4 (.aload_n 0) 1 5 := ⟨by decide +kernel, rfl⟩
theorem e_X0_init_5 : kk_d cX0_init 5 (.iconst 5) 1 6 := ⟨by decide +kernel, rfl⟩
theorem e_X0_init_6 : kk_d cX0_init 6 (.newarray .int) 2 8 := ⟨by decide +kernel, rfl⟩
theorem e_X0_init_8 : kk_d cX0_init 8 (.putfield 9) 3 11 := ⟨by decide +kernel, rfl⟩
theorem e_X0_init_11 : kk_d cX0_init 11 (.aload_n 0) 1 12 := ⟨by decide +kernel, rfl⟩
theorem e_X0_init_12 : kk_d cX0_init 12 (.iconst 5) 1 13 := ⟨by decide +kernel, rfl⟩
theorem e_X0_init_13 : kk_d cX0_init 13 (.newarray .int) 2 15 := ⟨by decide +kernel, rfl⟩
theorem e_X0_init_15 : kk_d cX0_init 15 (.putfield 15) 3 18 := ⟨by decide +kernel, rfl⟩
theorem e_X0_init_18 : kk_d cX0_init 18 (.aload_n 0) 1 19 := ⟨by decide +kernel, rfl⟩
theorem e_X0_init_19 : kk_d cX0_init 19 (.aload_n 1) 1 20 := ⟨by decide +kernel, rfl⟩
theorem e_X0_init_20 : kk_d cX0_init 20 (.putfield 18) 3 23 := ⟨by decide +kernel, rfl⟩
theorem e_X0_init_23 : kk_d cX0_init 23 .return_ 1 24 := ⟨by decide +kernel, rfl⟩
theorem e_X8_init_0 : kk_d cX8_init 0 (.aload_n 0) 1 1 := ⟨by decide +kernel, rfl⟩
theorem e_X8_init_1 : kk_d cX8_init 1 (.invokespecial 3) 3 4 := ⟨by decide +kernel, rfl⟩
theorem e_X8_init_4 : kk_d cX8_init 4 (.aload_n 0) 1 5 := ⟨by decide +kernel, rfl⟩
theorem e_X8_init_5 : kk_d cX8_init 5 (.bipush 9) 2 7 := ⟨by decide +kernel, rfl⟩
theorem e_X8_init_7 : kk_d cX8_init 7 (.newarray .int) 2 9 := ⟨by decide +kernel, rfl⟩
theorem e_X8_init_9 : kk_d cX8_init 9 (.putfield 9) 3 12 := ⟨by decide +kernel, rfl⟩
theorem e_X8_init_12 : kk_d cX8_init 12 (.aload_n 0) 1 13 := ⟨by decide +kernel, rfl⟩
theorem e_X8_init_13 : kk_d cX8_init 13 (.bipush 10) 2 15 := ⟨by decide +kernel, rfl⟩
theorem e_X8_init_15 : kk_d cX8_init 15 (.newarray .int) 2 17 := ⟨by decide +kernel, rfl⟩
theorem e_X8_init_17 : kk_d cX8_init 17 (.putfield 15) 3 20 := ⟨by decide +kernel, rfl⟩
theorem e_X8_init_20 : kk_d cX8_init 20 (.aload_n 0) 1 21 := ⟨by decide +kernel, rfl⟩
theorem e_X8_init_21 : kk_d cX8_init 21 (.aload_n 1) 1 22 := ⟨by decide +kernel, rfl⟩
theorem e_X8_init_22 : kk_d cX8_init 22 (.putfield 18) 3 25 := ⟨by decide +kernel, rfl⟩
theorem e_X8_init_25 : kk_d cX8_init 25 .return_ 1 26 := ⟨by decide +kernel, rfl⟩
theorem e_X9_init_0 : kk_d cX9_init 0 (.aload_n 0) 1 1 := ⟨by decide +kernel, rfl⟩
theorem e_X9_init_1 : kk_d cX9_init 1 (.invokespecial 5) 3 4 := ⟨by decide +kernel, rfl⟩
theorem e_X9_init_4 : kk_d cX9_init 4 (.aload_n 0) 1 5 := ⟨by decide +kernel, rfl⟩
theorem e_X9_init_5 : kk_d cX9_init 5 (.bipush 6) 2 7 := ⟨by decide +kernel, rfl⟩
theorem e_X9_init_7 : kk_d cX9_init 7 (.newarray .int) 2 9 := ⟨by decide +kernel, rfl⟩
theorem e_X9_init_9 : kk_d cX9_init 9 (.putfield 11) 3 12 := ⟨by decide +kernel, rfl⟩
theorem e_X9_init_12 : kk_d cX9_init 12 (.aload_n 0) 1 13 := ⟨by decide +kernel, rfl⟩
theorem e_X9_init_13 : kk_d cX9_init 13 (.sipush 128) 3 16 := ⟨by decide +kernel, rfl⟩
theorem e_X9_init_16 : kk_d cX9_init 16 (.newarray .int) 2 18 := ⟨by decide +kernel, rfl⟩
theorem e_X9_init_18 : kk_d cX9_init 18 (.putfield 15) 3 21 := ⟨by decide +kernel, rfl⟩
theorem e_X9_init_21 : kk_d cX9_init 21 (.aload_n 0) 1 22 := ⟨by decide +kernel, rfl⟩
theorem e_X9_init_22 : kk_d cX9_init 22 (.sipush 128) 3 25 := ⟨by decide +kernel, rfl⟩
theorem e_X9_init_25 : kk_d cX9_init 25 (.newarray .int) 2 27 := ⟨by decide +kernel, rfl⟩
theorem e_X9_init_27 : kk_d cX9_init 27 (.putfield 18) 3 30 := ⟨by decide +kernel, rfl⟩
theorem e_X9_init_30 : kk_d cX9_init 30 (.aload_n 0) 1 31 := ⟨by decide +kernel, rfl⟩
theorem e_X9_init_31 : kk_d cX9_init 31 (.sipush 128) 3 34 := ⟨by decide +kernel, rfl⟩
theorem e_X9_init_34 : kk_d cX9_init 34 (.newarray .int) 2 36 := ⟨by decide +kernel, rfl⟩
theorem e_X9_init_36 : kk_d cX9_init 36 (.putfield 21) 3 39 := ⟨by decide +kernel, rfl⟩
theorem e_X9_init_39 : kk_d cX9_init 39 (.aload_n 0) 1 40 := ⟨by decide +kernel, rfl⟩
theorem e_X9_init_40 : kk_d cX9_init 40 (.iconst 1) 1 41 := ⟨by decide +kernel, rfl⟩
theorem e_X9_init_41 : kk_d cX9_init 41 (.putfield 24) 3 44 := ⟨by decide +kernel, rfl⟩
theorem e_X9_init_44 : kk_d cX9_init 44 (.aload_n 0) 1 45 := ⟨by decide +kernel, rfl⟩
theorem e_X9_init_45 : kk_d cX9_init 45 (.iconst 0) 1 46 := ⟨by decide +kernel, rfl⟩
theorem e_X9_init_46 : kk_d cX9_init 46 (.putfield 28) 3 49 := ⟨by decide +kernel, rfl⟩
theorem e_X9_init_49 : kk_d cX9_init 49 (.aload_n 0) 1 50 := ⟨by decide +kernel, rfl⟩
theorem e_X9_init_50 : kk_d cX9_init 50 (.aload_n 1) 1 51 := ⟨by decide +kernel, rfl⟩
theorem e_X9_init_51 : kk_d cX9_init 51 (.putfield 31) 3 54 := ⟨by decide +kernel, rfl⟩
theorem e_X9_init_54 : kk_d cX9_init 54 .return_ 1 55 := ⟨by decide +kernel, rfl⟩
theorem e_X10_init_0 : kk_d cX10_init 0 (.aload_n 0) 1 1 := ⟨by decide +kernel, rfl⟩
theorem e_X10_init_1 : kk_d cX10_init 1 (.invokespecial 1) 3 4 := ⟨by decide +kernel, rfl⟩
theorem e_X10_init_4 : kk_d cX10_init 4 (.aload_n 0) 1 5 := ⟨by decide +kernel, rfl⟩
theorem e_X10_init_5 : kk_d cX10_init 5 (.new 7) 3 8 := ⟨by decide +kernel, rfl⟩
theorem e_X10_init_8 : kk_d cX10_init 8 .dup 1 9 := ⟨by decide +kernel, rfl⟩
theorem e_X10_init_9 : kk_d cX10_init 9 (.invokespecial 9) 3 12 := ⟨by decide +kernel, rfl⟩
theorem e_X10_init_12 : kk_d cX10_init 12 (.putfield 10) 3 15 := ⟨by decide +kernel, rfl⟩
theorem e_X10_init_15 : kk_d cX10_init 15 (.aload_n 0) 1 16 := ⟨by decide +kernel, rfl⟩
theorem e_X10_init_16 : kk_d cX10_init 16 (.new 16) 3 19 := ⟨by decide +kernel, rfl⟩
theorem e_X10_init_19 : kk_d cX10_init 19 .dup 1 20 := ⟨by decide +kernel, rfl⟩
theorem e_X10_init_20 : kk_d cX10_init 20 (.aload_n 0) 1 21 := ⟨by decide +kernel, rfl⟩
theorem e_X10_init_21 : kk_d cX10_init 21 (.getfield 10) 3 24 := ⟨by decide +kernel, rfl⟩
theorem e_X10_init_24 : kk_d cX10_init 24 (.invokespecial 18) 3 27 := ⟨by decide +kernel, rfl⟩
theorem e_X10_init_27 : kk_d cX10_init 27 (.putfield 21) 3 30 := ⟨by decide +kernel, rfl⟩
theorem e_X10_init_30 : kk_d cX10_init 30 (.aload_n 0) 1 31 := ⟨by decide +kernel, rfl⟩
theorem e_X10_init_31 : kk_d cX10_init 31 (.new 25) 3 34 := ⟨by decide +kernel, rfl⟩
theorem e_X10_init_34 : kk_d cX10_init 34 .dup 1 35 := ⟨by decide +kernel, rfl⟩
theorem e_X10_init_35 : kk_d cX10_init 35 (.aload_n 0) 1 36 := ⟨by decide +kernel, rfl⟩
theorem e_X10_init_36 : kk_d cX10_init 36 (.getfield 10) 3 39 := ⟨by decide +kernel, rfl⟩
theorem e_X10_init_39 : kk_d cX10_init 39 (.aload_n 0) 1 40 := ⟨by decide +kernel, rfl⟩
theorem e_X10_init_40 : kk_d cX10_init 40 (.getfield 21) 3 43 := ⟨by decide +kernel, rfl⟩
theorem e_X10_init_43 : kk_d cX10_init 43 (.invokespecial 27) 3 46 := ⟨by decide +kernel, rfl⟩
theorem e_X10_init_46 : kk_d cX10_init 46 (.putfield 30) 3 49 := ⟨by decide +kernel, rfl⟩
theorem e_X10_init_49 : kk_d cX10_init 49 (.aload_n 0) 1 50 := ⟨by decide +kernel, rfl⟩
theorem e_X10_init_50 : kk_d cX10_init 50 (.new 34) 3 53 := ⟨by decide +kernel, rfl⟩
theorem e_X10_init_53 : kk_d cX10_init 53 .dup 1 54 := ⟨by decide +kernel, rfl⟩
theorem e_X10_init_54 : kk_d cX10_init 54 (.aload_n 0) 1 55 := ⟨by decide +kernel, rfl⟩
theorem e_X10_init_55 : kk_d cX10_init 55 (.getfield 10) 3 58 := ⟨by decide +kernel, rfl⟩
theorem e_X10_init_58 : kk_d cX10_init 58 (.aload_n 0) 1 59 := ⟨by decide +kernel, rfl⟩
theorem e_X10_init_59 : kk_d cX10_init 59 (.getfield 21) 3 62 := ⟨by decide +kernel, rfl⟩
theorem e_X10_init_62 : kk_d cX10_init 62 (.aload_n 0) 1 63 := ⟨by decide +kernel, rfl⟩
theorem e_X10_init_63 : kk_d cX10_init 63 (.getfield 30) 3 66 := ⟨by decide +kernel, rfl⟩
theorem e_X10_init_66 : kk_d cX10_init 66 (.invokespecial 36) 3 69 := ⟨by decide +kernel, rfl⟩
theorem e_X10_init_69 : kk_d cX10_init 69 (.putfield 39) 3 72 := ⟨by decide +kernel, rfl⟩
theorem e_X10_init_72 : kk_d cX10_init 72 (.aload_n 0) 1 73 := ⟨by decide +kernel, rfl⟩
theorem e_X10_init_73 : kk_d cX10_init 73 (.new 43) 3 76 := ⟨by decide +kernel, rfl⟩
theorem e_X10_init_76 : kk_d cX10_init 76 .dup 1 77 := ⟨by decide +kernel, rfl⟩
theorem e_X10_init_77 : kk_d cX10_init 77 (.aload_n 0) 1 78 := ⟨by decide +kernel, rfl⟩
theorem e_X10_init_78 : kk_d cX10_init 78 (.getfield 10) 3 81 := ⟨by decide +kernel, rfl⟩
theorem e_X10_init_81 : kk_d cX10_init 81 (.aload_n 0) 1 82 := ⟨by decide +kernel, rfl⟩
theorem e_X10_init_82 : kk_d cX10_init 82 (.getfield 21) 3 85 := ⟨by decide +kernel, rfl⟩
theorem e_X10_init_85 : kk_d cX10_init 85 (.invokespecial 45) 3 88 := ⟨by decide +kernel, rfl⟩
theorem e_X10_init_88 : kk_d cX10_init 88 (.putfield 46) 3 91 := ⟨by decide +kernel, rfl⟩
theorem e_X10_init_91 : kk_d cX10_init 91 (.aload_n 0) 1 92 := ⟨by decide +kernel, rfl⟩
theorem e_X10_init_92 : kk_d cX10_init 92 (.new 50) 3 95 := ⟨by decide +kernel, rfl⟩
theorem e_X10_init_95 : kk_d cX10_init 95 .dup 1 96 := ⟨by decide +kernel, rfl⟩
theorem e_X10_init_96 : kk_d cX10_init 96 (.aload_n 0) 1 97 := ⟨by decide +kernel, rfl⟩
theorem e_X10_init_97 : kk_d cX10_init 97 (.getfield 10) 3 100 := ⟨by decide +kernel, rfl⟩
theorem e_X10_init_100 : kk_d cX10_init 100 (.aload_n 0) 1 101 := ⟨by decide +kernel, rfl⟩
theorem e_X10_init_101 : kk_d cX10_init 101 (.getfield 21) 3 104 := ⟨by decide +kernel, rfl⟩
theorem e_X10_init_104 : kk_d cX10_init 104 (.invokespecial 52) 3 107 := ⟨by decide +kernel, rfl⟩
theorem e_X10_init_107 : kk_d cX10_init 107 (.putfield 53) 3 110 := ⟨by decide +kernel, rfl⟩
theorem e_X10_init_110 : kk_d cX10_init 110 (.aload_n 0) 1 111 := ⟨by decide +kernel, rfl⟩
theorem e_X10_init_111 : kk_d cX10_init 111 (.new 57) 3 114 := ⟨by decide +kernel, rfl⟩
theorem e_X10_init_114 : kk_d cX10_init 114 .dup 1 115 := ⟨by decide +kernel, rfl⟩
theorem e_X10_init_115 : kk_d cX10_init 115 (.aload_n 0) 1 116 := ⟨by decide +kernel, rfl⟩
theorem e_X10_init_116 : kk_d cX10_init 116 (.getfield 10) 3 119 := ⟨by decide +kernel, rfl⟩
theorem e_X10_init_119 : kk_d cX10_init 119 (.invokespecial 59) 3 122 := ⟨by decide +kernel, rfl⟩
theorem e_X10_init_122 : kk_d cX10_init 122 (.putfield 60) 3 125 := ⟨by decide +kernel, rfl⟩
theorem e_X10_init_125 : kk_d cX10_init 125 (.aload_n 0) 1 126 := ⟨by decide +kernel, rfl⟩
theorem e_X10_init_126 : kk_d cX10_init 126 (.new 64) 3 129 := ⟨by decide +kernel, rfl⟩
theorem e_X10_init_129 : kk_d cX10_init 129 .dup 1 130 := ⟨by decide +kernel, rfl⟩
theorem e_X10_init_130 : kk_d cX10_init 130 (.aload_n 0) 1 131 := ⟨by decide +kernel, rfl⟩
theorem e_X10_init_131 : kk_d cX10_init 131 (.getfield 10) 3 134 := ⟨by decide +kernel, rfl⟩
theorem e_X10_init_134 : kk_d cX10_init 134 (.invokespecial 66) 3 137 := ⟨by decide +kernel, rfl⟩
theorem e_X10_init_137 : kk_d cX10_init 137 (.putfield 67) 3 140 := ⟨by decide +kernel, rfl⟩
theorem e_X10_init_140 : kk_d cX10_init 140 (.aload_n 0) 1 141 := ⟨by decide +kernel, rfl⟩
theorem e_X10_init_141 : kk_d cX10_init 141 (.new 71) 3 144 := ⟨by decide +kernel, rfl⟩
theorem e_X10_init_144 : kk_d cX10_init 144 .dup 1 145 := ⟨by decide +kernel, rfl⟩
theorem e_X10_init_145 : kk_d cX10_init 145 (.aload_n 0) 1 146 := ⟨by decide +kernel, rfl⟩
theorem e_X10_init_146 : kk_d cX10_init 146 (.getfield 10) 3 149 := ⟨by decide +kernel, rfl⟩
theorem e_X10_init_149 : kk_d cX10_init 149 (.invokespecial 73) 3 152 := ⟨by decide +kernel, rfl⟩
theorem e_X10_init_152 : kk_d cX10_init 152 (.putfield 74) 3 155 := ⟨by decide +kernel, rfl⟩
theorem e_X10_init_155 : kk_d cX10_init 155 (.aload_n 0) 1 156 := ⟨by decide +kernel, rfl⟩
theorem e_X10_init_156 : kk_d cX10_init 156 (.new 78) 3 159 := ⟨by decide +kernel, rfl⟩
theorem e_X10_init_159 : kk_d cX10_init 159 .dup 1 160 := ⟨by decide +kernel, rfl⟩
theorem e_X10_init_160 : kk_d cX10_init 160 (.aload_n 0) 1 161 := ⟨by decide +kernel, rfl⟩
theorem e_X10_init_161 : kk_d cX10_init 161 (.getfield 10) 3 164 := ⟨by decide +kernel, rfl⟩
theorem e_X10_init_164 : kk_d cX10_init 164 (.invokespecial 80) 3 167 := ⟨by decide +kernel, rfl⟩
theorem e_X10_init_167 : kk_d cX10_init 167 (.putfield 81) 3 170 := ⟨by decide +kernel, rfl⟩
theorem e_X10_init_170 : kk_d cX10_init 170 (.aload_n 0) 1 171 := ⟨by decide +kernel, rfl⟩
theorem e_X10_init_171 : kk_d cX10_init 171 (.bipush 20) 2 173 := ⟨by decide +kernel, rfl⟩
theorem e_X10_init_173 : kk_d cX10_init 173 (.newarray .int) 2 175 := ⟨by decide +kernel, rfl⟩
theorem e_X10_init_175 : kk_d cX10_init 175 (.putfield 85) 3 178 := ⟨by decide +kernel, rfl⟩
theorem e_X10_init_178 : kk_d cX10_init 178 (.aload_n 0) 1 179 := ⟨by decide +kernel, rfl⟩
theorem e_X10_init_179 : kk_d cX10_init 179 (.bipush 20) 2 181 := ⟨by decide +kernel, rfl⟩
theorem e_X10_init_181 : kk_d cX10_init 181 (.newarray .int) 2 183 := ⟨by decide +kernel, rfl⟩
theorem e_X10_init_183 : kk_d cX10_init 183 (.putfield 89) 3 186 := ⟨by decide +kernel, rfl⟩
theorem e_X10_init_186 : kk_d cX10_init 186 (.aload_n 0) 1 187 := ⟨by decide +kernel, rfl⟩
theorem e_X10_init_187 : kk_d cX10_init 187 (.iconst 0) 1 188 := ⟨by decide +kernel, rfl⟩
theorem e_X10_init_188 : kk_d cX10_init 188 (.putfield 92) 3 191 := ⟨by decide +kernel, rfl⟩
theorem e_X10_init_191 : kk_d cX10_init 191 .return_ 1 192 := ⟨by decide +kernel, rfl⟩
theorem e_X11_init_0 : kk_d cX11_init 0 (.aload_n 0) 1 1 := ⟨by decide +kernel, rfl⟩
theorem e_X11_init_1 : kk_d cX11_init 1 (.invokespecial 15) 3 4 := ⟨by decide +kernel, rfl⟩
theorem e_X11_init_4 : kk_d cX11_init 4 (.aload_n 0) 1 5 := ⟨by decide +kernel, rfl⟩
theorem e_X11_init_5 : kk_d cX11_init 5 (.iconst 1) 1 6 := ⟨by decide +kernel, rfl⟩
theorem e_X11_init_6 : kk_d cX11_init 6 (.putfield 21) 3 9 := ⟨by decide +kernel, rfl⟩
theorem e_X11_init_9 : kk_d cX11_init 9 (.aload_n 0) 1 10 := ⟨by decide +kernel, rfl⟩
theorem e_X11_init_10 : kk_d cX11_init 10 (.bipush 20) 2 12 := ⟨by decide +kernel, rfl⟩
theorem e_X11_init_12 : kk_d cX11_init 12 (.newarray .int) 2 14 := ⟨by decide +kernel, rfl⟩
theorem e_X11_init_14 : kk_d cX11_init 14 (.putfield 24) 3 17 := ⟨by decide +kernel, rfl⟩
theorem e_X11_init_17 : kk_d cX11_init 17 (.aload_n 0) 1 18 := ⟨by decide +kernel, rfl⟩
theorem e_X11_init_18 : kk_d cX11_init 18 (.bipush 20) 2 20 := ⟨by decide +kernel, rfl⟩
theorem e_X11_init_20 : kk_d cX11_init 20 (.newarray .int) 2 22 := ⟨by decide +kernel, rfl⟩
theorem e_X11_init_22 : kk_d cX11_init 22 (.putfield 28) 3 25 := ⟨by decide +kernel, rfl⟩
theorem e_X11_init_25 : kk_d cX11_init 25 (.aload_n 0) 1 26 := ⟨by decide +kernel, rfl⟩
theorem e_X11_init_26 : kk_d cX11_init 26 (.bipush 20) 2 28 := ⟨by decide +kernel, rfl⟩
theorem e_X11_init_28 : kk_d cX11_init 28 (.newarray .int) 2 30 := ⟨by decide +kernel, rfl⟩
theorem e_X11_init_30 : kk_d cX11_init 30 (.putfield 31) 3 33 := ⟨by decide +kernel, rfl⟩
theorem e_X11_init_33 : kk_d cX11_init 33 (.aload_n 0) 1 34 := ⟨by decide +kernel, rfl⟩
theorem e_X11_init_34 : kk_d cX11_init 34 (.bipush 20) 2 36 := ⟨by decide +kernel, rfl⟩
theorem e_X11_init_36 : kk_d cX11_init 36 (.newarray .int) 2 38 := ⟨by decide +kernel, rfl⟩
theorem e_X11_init_38 : kk_d cX11_init 38 (.putfield 34) 3 41 := ⟨by decide +kernel, rfl⟩
theorem e_X11_init_41 : kk_d cX11_init 41 (.aload_n 0) 1 42 := ⟨by decide +kernel, rfl⟩
theorem e_X11_init_42 : kk_d cX11_init 42 (.bipush 20) 2 44 := ⟨by decide +kernel, rfl⟩
theorem e_X11_init_44 : kk_d cX11_init 44 (.newarray .int) 2 46 := ⟨by decide +kernel, rfl⟩
theorem e_X11_init_46 : kk_d cX11_init 46 (.putfield 37) 3 49 := ⟨by decide +kernel, rfl⟩
theorem e_X11_init_49 : kk_d cX11_init 49 (.aload_n 0) 1 50 := ⟨by decide +kernel, rfl⟩
theorem e_X11_init_50 : kk_d cX11_init 50 (.bipush 9) 2 52 := ⟨by decide +kernel, rfl⟩
theorem e_X11_init_52 : kk_d cX11_init 52 (.newarray .int) 2 54 := ⟨by decide +kernel, rfl⟩
theorem e_X11_init_54 : kk_d cX11_init 54 (.putfield 40) 3 57 := ⟨by decide +kernel, rfl⟩
theorem e_X11_init_57 : kk_d cX11_init 57 (.aload_n 0) 1 58 := ⟨by decide +kernel, rfl⟩
theorem e_X11_init_58 : kk_d cX11_init 58 (.iconst 5) 1 59 := ⟨by decide +kernel, rfl⟩
theorem e_X11_init_59 : kk_d cX11_init 59 (.newarray .int) 2 61 := ⟨by decide +kernel, rfl⟩
theorem e_X11_init_61 : kk_d cX11_init 61 (.putfield 43) 3 64 := ⟨by decide +kernel, rfl⟩
theorem e_X11_init_64 : kk_d cX11_init 64 (.aload_n 0) 1 65 := ⟨by decide +kernel, rfl⟩
theorem e_X11_init_65 : kk_d cX11_init 65 (.bipush 9) 2 67 := ⟨by decide +kernel, rfl⟩
theorem e_X11_init_67 : kk_d cX11_init 67 (.newarray .int) 2 69 := ⟨by decide +kernel, rfl⟩
theorem e_X11_init_69 : kk_d cX11_init 69 (.putfield 46) 3 72 := ⟨by decide +kernel, rfl⟩
theorem e_X11_init_72 : kk_d cX11_init 72 (.aload_n 0) 1 73 := ⟨by decide +kernel, rfl⟩
theorem e_X11_init_73 : kk_d cX11_init 73 (.bipush 18) 2 75 := ⟨by decide +kernel, rfl⟩
theorem e_X11_init_75 : kk_d cX11_init 75 (.newarray .int) 2 77 := ⟨by decide +kernel, rfl⟩
theorem e_X11_init_77 : kk_d cX11_init 77 (.putfield 49) 3 80 := ⟨by decide +kernel, rfl⟩
theorem e_X11_init_80 : kk_d cX11_init 80 (.aload_n 0) 1 81 := ⟨by decide +kernel, rfl⟩
theorem e_X11_init_81 : kk_d cX11_init 81 (.bipush 20) 2 83 := ⟨by decide +kernel, rfl⟩
theorem e_X11_init_83 : kk_d cX11_init 83 (.newarray .int) 2 85 := ⟨by decide +kernel, rfl⟩
theorem e_X11_init_85 : kk_d cX11_init 85 (.putfield 52) 3 88 := ⟨by decide +kernel, rfl⟩
theorem e_X11_init_88 : kk_d cX11_init 88 (.aload_n 0) 1 89 := ⟨by decide +kernel, rfl⟩
theorem e_X11_init_89 : kk_d cX11_init 89 (.bipush 20) 2 91 := ⟨by decide +kernel, rfl⟩
theorem e_X11_init_91 : kk_d cX11_init 91 (.newarray .int) 2 93 := ⟨by decide +kernel, rfl⟩
theorem e_X11_init_93 : kk_d cX11_init 93 (.putfield 55) 3 96 := ⟨by decide +kernel, rfl⟩
theorem e_X11_init_96 : kk_d cX11_init 96 (.aload_n 0) 1 97 := ⟨by decide +kernel, rfl⟩
theorem e_X11_init_97 : kk_d cX11_init 97 (.bipush 9) 2 99 := ⟨by decide +kernel, rfl⟩
theorem e_X11_init_99 : kk_d cX11_init 99 (.newarray .int) 2 101 := ⟨by decide +kernel, rfl⟩
theorem e_X11_init_101 : kk_d cX11_init 101 (.putfield 58) 3 104 := ⟨by decide +kernel, rfl⟩
theorem e_X11_init_104 : kk_d cX11_init 104 (.aload_n 0) 1 105 := ⟨by decide +kernel, rfl⟩
theorem e_X11_init_105 : kk_d cX11_init 105 (.bipush 20) 2 107 := ⟨by decide +kernel, rfl⟩
theorem e_X11_init_107 : kk_d cX11_init 107 (.newarray .int) 2 109 := ⟨by decide +kernel, rfl⟩
theorem e_X11_init_109 : kk_d cX11_init 109 (.putfield 61) 3 112 := ⟨by decide +kernel, rfl⟩
theorem e_X11_init_112 : kk_d cX11_init 112 (.aload_n 0) 1 113 := ⟨by decide +kernel, rfl⟩
theorem e_X11_init_113 : kk_d cX11_init 113 (.bipush 20) 2 115 := ⟨by decide +kernel, rfl⟩
theorem e_X11_init_115 : kk_d cX11_init 115 (.newarray .int) 2 117 := ⟨by decide +kernel, rfl⟩
theorem e_X11_init_117 : kk_d cX11_init 117 (.putfield 64) 3 120 := ⟨by decide +kernel, rfl⟩
theorem e_X11_init_120 : kk_d cX11_init 120 (.aload_n 0) 1 121 := ⟨by decide +kernel, rfl⟩
theorem e_X11_init_121 : kk_d cX11_init 121 (.bipush 9) 2 123 := ⟨by decide +kernel, rfl⟩
theorem e_X11_init_123 : kk_d cX11_init 123 (.newarray .int) 2 125 := ⟨by decide +kernel, rfl⟩
theorem e_X11_init_125 : kk_d cX11_init 125 (.putfield 67) 3 128 := ⟨by decide +kernel, rfl⟩
theorem e_X11_init_128 : kk_d cX11_init 128 (.aload_n 0) 1 129 := ⟨by decide +kernel, rfl⟩
theorem e_X11_init_129 : kk_d cX11_init 129 (.bipush 10) 2 131 := ⟨by decide +kernel, rfl⟩
theorem e_X11_init_131 : kk_d cX11_init 131 (.newarray .int) 2 133 := ⟨by decide +kernel, rfl⟩
theorem e_X11_init_133 : kk_d cX11_init 133 (.putfield 70) 3 136 := ⟨by decide +kernel, rfl⟩
theorem e_X11_init_136 : kk_d cX11_init 136 (.aload_n 0) 1 137 := ⟨by decide +kernel, rfl⟩
theorem e_X11_init_137 : kk_d cX11_init 137 (.bipush 10) 2 139 := ⟨by decide +kernel, rfl⟩
theorem e_X11_init_139 : kk_d cX11_init 139 (.newarray .long) 2 141 := ⟨by decide +kernel, rfl⟩
theorem e_X11_init_141 : kk_d cX11_init 141 (.putfield 73) 3 144 := ⟨by decide +kernel, rfl⟩
theorem e_X11_init_144 : kk_d cX11_init 144 (.aload_n 0) 1 145 := ⟨by decide +kernel, rfl⟩
theorem e_X11_init_145 : kk_d cX11_init 145 (.bipush 20) 2 147 := ⟨by decide +kernel, rfl⟩
theorem e_X11_init_147 : kk_d cX11_init 147 (.newarray .int) 2 149 := ⟨by decide +kernel, rfl⟩
theorem e_X11_init_149 : kk_d cX11_init 149 (.putfield 77) 3 152 := ⟨by decide +kernel, rfl⟩
theorem e_X11_init_152 : kk_d cX11_init 152 (.aload_n 0) 1 153 := ⟨by decide +kernel, rfl⟩
theorem e_X11_init_153 : kk_d cX11_init 153 (.sipush 4096) 3 156 := ⟨by decide +kernel, rfl⟩
theorem e_X11_init_156 : kk_d cX11_init 156 (.newarray .int) 2 158 := ⟨by decide +kernel, rfl⟩
theorem e_X11_init_158 : kk_d cX11_init 158 (.putfield 80) 3 161 := ⟨by decide +kernel, rfl⟩
theorem e_X11_init_161 : kk_d cX11_init 161 (.aload_n 0) 1 162 := ⟨by decide +kernel, rfl⟩
theorem e_X11_init_162 : kk_d cX11_init 162 (.sipush 4096) 3 165 := ⟨by decide +kernel, rfl⟩
theorem e_X11_init_165 : kk_d cX11_init 165 (.newarray .int) 2 167 := ⟨by decide +kernel, rfl⟩
theorem e_X11_init_167 : kk_d cX11_init 167 (.putfield 83) 3 170 := ⟨by decide +kernel, rfl⟩
theorem e_X11_init_170 : kk_d cX11_init 170 (.aload_n 0) 1 171 := ⟨by decide +kernel, rfl⟩
theorem e_X11_init_171 : kk_d cX11_init 171 (.sipush 10752) 3 174 := ⟨by decide +kernel, rfl⟩
theorem e_X11_init_174 : kk_d cX11_init 174 (.newarray .int) 2 176 := ⟨by decide +kernel, rfl⟩
theorem e_X11_init_176 : kk_d cX11_init 176 (.putfield 86) 3 179 := ⟨by decide +kernel, rfl⟩
theorem e_X11_init_179 : kk_d cX11_init 179 (.aload_n 0) 1 180 := ⟨by decide +kernel, rfl⟩
theorem e_X11_init_180 : kk_d cX11_init 180 (.sipush 2560) 3 183 := ⟨by decide +kernel, rfl⟩
theorem e_X11_init_183 : kk_d cX11_init 183 (.newarray .int) 2 185 := ⟨by decide +kernel, rfl⟩
theorem e_X11_init_185 : kk_d cX11_init 185 (.putfield 89) 3 188 := ⟨by decide +kernel, rfl⟩
theorem e_X11_init_188 : kk_d cX11_init 188 .return_ 1 189 := ⟨by decide +kernel, rfl⟩
def co_X6 (cI cL : ClassId) (h0 : Nat) (u : Nat → Nat) : va_W := [(h0, .inr (6, [.ref (u 0), .ref (u 1), .ref (u 2), .ref (u 3), .ref (u 4), .int (1 : Int32), .int (0 : Int32), .int (0 : Int32)])), ((u 0), .inl (cI, 20, .inl (fun _ => 0))), ((u 1), .inl (cI, 20, .inl (fun _ => 0))), ((u 2), .inl (cI, 20, .inl (fun _ => 0))), ((u 3), .inl (cI, 9, .inl (fun _ => 0))), ((u 4), .inl (cI, 9, .inl (fun _ => 0)))]
set_option maxRecDepth 8000 in
set_option maxHeartbeats 4000000 in
theorem ct_X6 (l : Launch) (D : va_G) (cI cL : ClassId) (h0 : Nat) : ct_M l D cI cL yX6_init cX6_init 1 ({ frames := 4, cells := 5, slots := 78, locals := 300 }) h0 [] (.inr (6, [.null, .null, .null, .null, .null, .int 0, .int 0, .int 0])) (co_X6 cI cL h0) 5 78 := by
  refine ck_met (own := RX6) (by decide) rfl rfl (Nat.le_of_ble_eq_true rfl) rfl (fun sz => ?_)
  refine ck_aload_n 0 rfl e_X6_init_0 ?_
  refine ck_objInit e_X6_init_1 ol_X6 ol_inst ol_code ⟨Nat.le_of_ble_eq_true rfl, Nat.le_of_ble_eq_true rfl⟩ ?_
  refine ck_aload_n 0 rfl e_X6_init_4 ?_
  refine ck_bipush (v := (20 : Int32)) (by decide +kernel) e_X6_init_5 ?_
  refine ck_newi (N := 20) e_X6_init_7 aw_clsI (by decide) (by decide +kernel) (by decide) (Nat.le_of_ble_eq_true rfl) (Nat.le_of_ble_eq_true rfl) (fun q0 => ?_)
  refine ck_eq (ws' := [(h0, .inr (6, [.null, .null, .null, .null, .null, .int 0, .int 0, .int 0])), (q0, .inl (cI, 20, .inl (fun _ => 0)))]) rfl ?_
  refine ck_widen (k := 1) (n := 20) (by omega) (by omega) ?_
  refine ck_putF (ws' := [(h0, .inr (6, [.ref q0, .null, .null, .null, .null, .int 0, .int 0, .int 0])), (q0, .inl (cI, 20, .inl (fun _ => 0)))]) e_X6_init_9 fl_X6_9 ff_X6_0 lk_X6_9 rfl rfl 0 rfl (Nat.le_of_ble_eq_true rfl) rfl ?_
  refine ck_aload_n 0 rfl e_X6_init_12 ?_
  refine ck_bipush (v := (20 : Int32)) (by decide +kernel) e_X6_init_13 ?_
  refine ck_newi (N := 20) e_X6_init_15 aw_clsI (by decide) (by decide +kernel) (by decide) (Nat.le_of_ble_eq_true rfl) (Nat.le_of_ble_eq_true rfl) (fun q1 => ?_)
  refine ck_eq (ws' := [(h0, .inr (6, [.ref q0, .null, .null, .null, .null, .int 0, .int 0, .int 0])), (q0, .inl (cI, 20, .inl (fun _ => 0))), (q1, .inl (cI, 20, .inl (fun _ => 0)))]) rfl ?_
  refine ck_widen (k := 2) (n := 40) (by omega) (by omega) ?_
  refine ck_putF (ws' := [(h0, .inr (6, [.ref q0, .ref q1, .null, .null, .null, .int 0, .int 0, .int 0])), (q0, .inl (cI, 20, .inl (fun _ => 0))), (q1, .inl (cI, 20, .inl (fun _ => 0)))]) e_X6_init_17 fl_X6_15 ff_X6_1 lk_X6_15 rfl rfl 0 rfl (Nat.le_of_ble_eq_true rfl) rfl ?_
  refine ck_aload_n 0 rfl e_X6_init_20 ?_
  refine ck_bipush (v := (20 : Int32)) (by decide +kernel) e_X6_init_21 ?_
  refine ck_newi (N := 20) e_X6_init_23 aw_clsI (by decide) (by decide +kernel) (by decide) (Nat.le_of_ble_eq_true rfl) (Nat.le_of_ble_eq_true rfl) (fun q2 => ?_)
  refine ck_eq (ws' := [(h0, .inr (6, [.ref q0, .ref q1, .null, .null, .null, .int 0, .int 0, .int 0])), (q0, .inl (cI, 20, .inl (fun _ => 0))), (q1, .inl (cI, 20, .inl (fun _ => 0))), (q2, .inl (cI, 20, .inl (fun _ => 0)))]) rfl ?_
  refine ck_widen (k := 3) (n := 60) (by omega) (by omega) ?_
  refine ck_putF (ws' := [(h0, .inr (6, [.ref q0, .ref q1, .ref q2, .null, .null, .int 0, .int 0, .int 0])), (q0, .inl (cI, 20, .inl (fun _ => 0))), (q1, .inl (cI, 20, .inl (fun _ => 0))), (q2, .inl (cI, 20, .inl (fun _ => 0)))]) e_X6_init_25 fl_X6_18 ff_X6_2 lk_X6_18 rfl rfl 0 rfl (Nat.le_of_ble_eq_true rfl) rfl ?_
  refine ck_aload_n 0 rfl e_X6_init_28 ?_
  refine ck_bipush (v := (9 : Int32)) (by decide +kernel) e_X6_init_29 ?_
  refine ck_newi (N := 9) e_X6_init_31 aw_clsI (by decide) (by decide +kernel) (by decide) (Nat.le_of_ble_eq_true rfl) (Nat.le_of_ble_eq_true rfl) (fun q3 => ?_)
  refine ck_eq (ws' := [(h0, .inr (6, [.ref q0, .ref q1, .ref q2, .null, .null, .int 0, .int 0, .int 0])), (q0, .inl (cI, 20, .inl (fun _ => 0))), (q1, .inl (cI, 20, .inl (fun _ => 0))), (q2, .inl (cI, 20, .inl (fun _ => 0))), (q3, .inl (cI, 9, .inl (fun _ => 0)))]) rfl ?_
  refine ck_widen (k := 4) (n := 69) (by omega) (by omega) ?_
  refine ck_putF (ws' := [(h0, .inr (6, [.ref q0, .ref q1, .ref q2, .ref q3, .null, .int 0, .int 0, .int 0])), (q0, .inl (cI, 20, .inl (fun _ => 0))), (q1, .inl (cI, 20, .inl (fun _ => 0))), (q2, .inl (cI, 20, .inl (fun _ => 0))), (q3, .inl (cI, 9, .inl (fun _ => 0)))]) e_X6_init_33 fl_X6_21 ff_X6_3 lk_X6_21 rfl rfl 0 rfl (Nat.le_of_ble_eq_true rfl) rfl ?_
  refine ck_aload_n 0 rfl e_X6_init_36 ?_
  refine ck_bipush (v := (9 : Int32)) (by decide +kernel) e_X6_init_37 ?_
  refine ck_newi (N := 9) e_X6_init_39 aw_clsI (by decide) (by decide +kernel) (by decide) (Nat.le_of_ble_eq_true rfl) (Nat.le_of_ble_eq_true rfl) (fun q4 => ?_)
  refine ck_eq (ws' := [(h0, .inr (6, [.ref q0, .ref q1, .ref q2, .ref q3, .null, .int 0, .int 0, .int 0])), (q0, .inl (cI, 20, .inl (fun _ => 0))), (q1, .inl (cI, 20, .inl (fun _ => 0))), (q2, .inl (cI, 20, .inl (fun _ => 0))), (q3, .inl (cI, 9, .inl (fun _ => 0))), (q4, .inl (cI, 9, .inl (fun _ => 0)))]) rfl ?_
  refine ck_widen (k := 5) (n := 78) (by omega) (by omega) ?_
  refine ck_putF (ws' := [(h0, .inr (6, [.ref q0, .ref q1, .ref q2, .ref q3, .ref q4, .int 0, .int 0, .int 0])), (q0, .inl (cI, 20, .inl (fun _ => 0))), (q1, .inl (cI, 20, .inl (fun _ => 0))), (q2, .inl (cI, 20, .inl (fun _ => 0))), (q3, .inl (cI, 9, .inl (fun _ => 0))), (q4, .inl (cI, 9, .inl (fun _ => 0)))]) e_X6_init_41 fl_X6_24 ff_X6_4 lk_X6_24 rfl rfl 0 rfl (Nat.le_of_ble_eq_true rfl) rfl ?_
  refine ck_aload_n 0 rfl e_X6_init_44 ?_
  refine ck_iconst (v := (1 : Int32)) (by decide +kernel) e_X6_init_45 ?_
  refine ck_put (ws' := [(h0, .inr (6, [.ref q0, .ref q1, .ref q2, .ref q3, .ref q4, .int (1 : Int32), .int 0, .int 0])), (q0, .inl (cI, 20, .inl (fun _ => 0))), (q1, .inl (cI, 20, .inl (fun _ => 0))), (q2, .inl (cI, 20, .inl (fun _ => 0))), (q3, .inl (cI, 9, .inl (fun _ => 0))), (q4, .inl (cI, 9, .inl (fun _ => 0)))]) e_X6_init_46 fl_X6_27 fn_X6_5 lk_X6_27 rfl rfl 0 rfl (Nat.le_of_ble_eq_true rfl) rfl ?_
  refine ck_aload_n 0 rfl e_X6_init_49 ?_
  refine ck_iconst (v := (0 : Int32)) (by decide +kernel) e_X6_init_50 ?_
  refine ck_put (ws' := [(h0, .inr (6, [.ref q0, .ref q1, .ref q2, .ref q3, .ref q4, .int (1 : Int32), .int (0 : Int32), .int 0])), (q0, .inl (cI, 20, .inl (fun _ => 0))), (q1, .inl (cI, 20, .inl (fun _ => 0))), (q2, .inl (cI, 20, .inl (fun _ => 0))), (q3, .inl (cI, 9, .inl (fun _ => 0))), (q4, .inl (cI, 9, .inl (fun _ => 0)))]) e_X6_init_51 fl_X6_31 fn_X6_6 lk_X6_31 rfl rfl 0 rfl (Nat.le_of_ble_eq_true rfl) rfl ?_
  refine ck_aload_n 0 rfl e_X6_init_54 ?_
  refine ck_iconst (v := (0 : Int32)) (by decide +kernel) e_X6_init_55 ?_
  refine ck_put (ws' := [(h0, .inr (6, [.ref q0, .ref q1, .ref q2, .ref q3, .ref q4, .int (1 : Int32), .int (0 : Int32), .int (0 : Int32)])), (q0, .inl (cI, 20, .inl (fun _ => 0))), (q1, .inl (cI, 20, .inl (fun _ => 0))), (q2, .inl (cI, 20, .inl (fun _ => 0))), (q3, .inl (cI, 9, .inl (fun _ => 0))), (q4, .inl (cI, 9, .inl (fun _ => 0)))]) e_X6_init_56 fl_X6_34 fn_X6_7 lk_X6_34 rfl rfl 0 rfl (Nat.le_of_ble_eq_true rfl) rfl ?_
  exact ck_vret (fun i => [q0, q1, q2, q3, q4].getD i 0) e_X6_init_59 rfl [0, 1, 2, 3, 4, 5] (by decide) rfl rfl
def co_X3 (cI cL : ClassId) (h0 x1 : Nat) (u : Nat → Nat) : va_W := [(h0, .inr (3, [.ref x1, .ref (u 1), .ref (u 0)])), ((u 0), .inl (cI, 9, .inl (fun _ => 0))), ((u 1), .inl (cI, 20, .inl (fun _ => -1)))]
set_option maxRecDepth 8000 in
set_option maxHeartbeats 4000000 in
theorem ct_X3 (l : Launch) (D : va_G) (cI cL : ClassId) (h0 x1 : Nat) : ct_M l D cI cL yX3_init cX3_init 2 ({ frames := 4, cells := 2, slots := 29, locals := 300 }) h0 [.ref x1] (.inr (3, [.null, .null, .null])) (co_X3 cI cL h0 x1) 2 29 := by
  refine ck_met (own := RX3) (by decide) rfl rfl (Nat.le_of_ble_eq_true rfl) rfl (fun sz => ?_)
  refine ck_aload_n 0 rfl e_X3_init_0 ?_
  refine ck_objInit e_X3_init_1 ol_X3 ol_inst ol_code ⟨Nat.le_of_ble_eq_true rfl, Nat.le_of_ble_eq_true rfl⟩ ?_
  refine ck_aload_n 0 rfl e_X3_init_4 ?_
  refine ck_bipush (v := (20 : Int32)) (by decide +kernel) e_X3_init_5 ?_
  refine ck_newi (N := 20) e_X3_init_7 aw_clsI (by decide) (by decide +kernel) (by decide) (Nat.le_of_ble_eq_true rfl) (Nat.le_of_ble_eq_true rfl) (fun q0 => ?_)
  refine ck_eq (ws' := [(h0, .inr (3, [.null, .null, .null])), (q0, .inl (cI, 20, .inl (fun _ => 0)))]) rfl ?_
  refine ck_widen (k := 1) (n := 20) (by omega) (by omega) ?_
  refine ck_putF (ws' := [(h0, .inr (3, [.null, .ref q0, .null])), (q0, .inl (cI, 20, .inl (fun _ => 0)))]) e_X3_init_9 fl_X3_9 ff_X3_1 lk_X3_9 rfl rfl 0 rfl (Nat.le_of_ble_eq_true rfl) rfl ?_
  refine ck_aload_n 0 rfl e_X3_init_12 ?_
  refine ck_bipush (v := (9 : Int32)) (by decide +kernel) e_X3_init_13 ?_
  refine ck_newi (N := 9) e_X3_init_15 aw_clsI (by decide) (by decide +kernel) (by decide) (Nat.le_of_ble_eq_true rfl) (Nat.le_of_ble_eq_true rfl) (fun q1 => ?_)
  refine ck_eq (ws' := [(h0, .inr (3, [.null, .ref q0, .null])), (q0, .inl (cI, 20, .inl (fun _ => 0))), (q1, .inl (cI, 9, .inl (fun _ => 0)))]) rfl ?_
  refine ck_widen (k := 2) (n := 29) (by omega) (by omega) ?_
  refine ck_putF (ws' := [(h0, .inr (3, [.null, .ref q0, .ref q1])), (q0, .inl (cI, 20, .inl (fun _ => 0))), (q1, .inl (cI, 9, .inl (fun _ => 0)))]) e_X3_init_17 fl_X3_15 ff_X3_2 lk_X3_15 rfl rfl 0 rfl (Nat.le_of_ble_eq_true rfl) rfl ?_
  refine ck_aload_n 0 rfl e_X3_init_20 ?_
  refine ck_aload_n 1 rfl e_X3_init_21 ?_
  refine ck_putF (ws' := [(h0, .inr (3, [.ref x1, .ref q0, .ref q1])), (q0, .inl (cI, 20, .inl (fun _ => 0))), (q1, .inl (cI, 9, .inl (fun _ => 0)))]) e_X3_init_22 fl_X3_18 ff_X3_0 lk_X3_18 rfl rfl 0 rfl (Nat.le_of_ble_eq_true rfl) rfl ?_
  refine ck_aload_n 0 rfl e_X3_init_25 ?_
  refine ck_get (v := .ref q0) e_X3_init_26 fl_X3_9 0 rfl rfl ?_
  refine ck_iconst (v := (-1 : Int32)) (by decide +kernel) e_X3_init_29 ?_
  refine ck_callSv (Z := (l, fun _ => q0, D, cI, cL)) (sh := [.inl (false, 20)]) (σ := (fun _ _ => 0, fun _ => 0)) (As := [.ref q0, .int (-1 : Int32)]) (rest := []) ⟨rfl, rfl, rfl, rfl⟩ e_X3_init_30 (sG_J7_fill_53178 _ _ 0 20 (-1 : Int32) _ (fun σ' => ∀ i, i < 20 → σ'.1 0 i = -1) rfl ct_fill) ml_X3_22 rfl ⟨rfl, rfl, Nat.le_of_ble_eq_true rfl, Nat.le_of_ble_eq_true rfl⟩ ⟨Nat.le_of_ble_eq_true rfl, Nat.le_of_ble_eq_true rfl⟩ (Nat.le_of_ble_eq_true rfl) rfl (fun i j hi hj _ => by simp only [List.length_singleton] at hi hj; omega) [1] [0, 2] [(h0, .inr (3, [.ref x1, .ref q0, .ref q1])), (q1, .inl (cI, 9, .inl (fun _ => 0)))] rfl rfl rfl (by decide) (by decide) (fun σ1 hσ1 => ?_)
  refine ck_eq (ws' := [(h0, .inr (3, [.ref x1, .ref q0, .ref q1])), (q1, .inl (cI, 9, .inl (fun _ => 0))), (q0, .inl (cI, 20, .inl (σ1.1 0)))]) rfl ?_
  refine ck_arr 2 rfl (g := fun _ => -1) hσ1 ?_
  refine ck_eq (ws' := [(h0, .inr (3, [.ref x1, .ref q0, .ref q1])), (q1, .inl (cI, 9, .inl (fun _ => 0))), (q0, .inl (cI, 20, .inl (fun _ => -1)))]) rfl ?_
  exact ck_vret (fun i => [q1, q0].getD i 0) e_X3_init_33 rfl [0, 1, 2] (by decide) rfl rfl
def co_X4 (cI cL : ClassId) (h0 x1 x2 : Nat) (u : Nat → Nat) : va_W := [(h0, .inr (4, [.ref x1, .ref x2, .ref (u 0), .int (0 : Int32)])), ((u 0), .inl (cI, 9, .inl (fun _ => 0)))]
set_option maxRecDepth 8000 in
set_option maxHeartbeats 4000000 in
theorem ct_X4 (l : Launch) (D : va_G) (cI cL : ClassId) (h0 x1 x2 : Nat) : ct_M l D cI cL yX4_init cX4_init 3 ({ frames := 4, cells := 1, slots := 9, locals := 300 }) h0 [.ref x1, .ref x2] (.inr (4, [.null, .null, .null, .int 0])) (co_X4 cI cL h0 x1 x2) 1 9 := by
  refine ck_met (own := RX4) (by decide) rfl rfl (Nat.le_of_ble_eq_true rfl) rfl (fun sz => ?_)
  refine ck_aload_n 0 rfl e_X4_init_0 ?_
  refine ck_objInit e_X4_init_1 ol_X4 ol_inst ol_code ⟨Nat.le_of_ble_eq_true rfl, Nat.le_of_ble_eq_true rfl⟩ ?_
  refine ck_aload_n 0 rfl e_X4_init_4 ?_
  refine ck_bipush (v := (9 : Int32)) (by decide +kernel) e_X4_init_5 ?_
  refine ck_newi (N := 9) e_X4_init_7 aw_clsI (by decide) (by decide +kernel) (by decide) (Nat.le_of_ble_eq_true rfl) (Nat.le_of_ble_eq_true rfl) (fun q0 => ?_)
  refine ck_eq (ws' := [(h0, .inr (4, [.null, .null, .null, .int 0])), (q0, .inl (cI, 9, .inl (fun _ => 0)))]) rfl ?_
  refine ck_widen (k := 1) (n := 9) (by omega) (by omega) ?_
  refine ck_putF (ws' := [(h0, .inr (4, [.null, .null, .ref q0, .int 0])), (q0, .inl (cI, 9, .inl (fun _ => 0)))]) e_X4_init_9 fl_X4_9 ff_X4_2 lk_X4_9 rfl rfl 0 rfl (Nat.le_of_ble_eq_true rfl) rfl ?_
  refine ck_aload_n 0 rfl e_X4_init_12 ?_
  refine ck_iconst (v := (0 : Int32)) (by decide +kernel) e_X4_init_13 ?_
  refine ck_put (ws' := [(h0, .inr (4, [.null, .null, .ref q0, .int (0 : Int32)])), (q0, .inl (cI, 9, .inl (fun _ => 0)))]) e_X4_init_14 fl_X4_15 fn_X4_3 lk_X4_15 rfl rfl 0 rfl (Nat.le_of_ble_eq_true rfl) rfl ?_
  refine ck_aload_n 0 rfl e_X4_init_17 ?_
  refine ck_aload_n 1 rfl e_X4_init_18 ?_
  refine ck_putF (ws' := [(h0, .inr (4, [.ref x1, .null, .ref q0, .int (0 : Int32)])), (q0, .inl (cI, 9, .inl (fun _ => 0)))]) e_X4_init_19 fl_X4_19 ff_X4_0 lk_X4_19 rfl rfl 0 rfl (Nat.le_of_ble_eq_true rfl) rfl ?_
  refine ck_aload_n 0 rfl e_X4_init_22 ?_
  refine ck_aload_n 2 rfl e_X4_init_23 ?_
  refine ck_putF (ws' := [(h0, .inr (4, [.ref x1, .ref x2, .ref q0, .int (0 : Int32)])), (q0, .inl (cI, 9, .inl (fun _ => 0)))]) e_X4_init_24 fl_X4_23 ff_X4_1 lk_X4_23 rfl rfl 0 rfl (Nat.le_of_ble_eq_true rfl) rfl ?_
  exact ck_vret (fun i => [q0].getD i 0) e_X4_init_27 rfl [0, 1] (by decide) rfl rfl
def co_X5 (cI cL : ClassId) (h0 x1 x2 x3 : Nat) (u : Nat → Nat) : va_W := [(h0, .inr (5, [.ref x1, .ref x2, .ref x3, .ref (u 0), .int (0 : Int32)])), ((u 0), .inl (cI, 5, .inl (fun _ => 0)))]
set_option maxRecDepth 8000 in
set_option maxHeartbeats 4000000 in
theorem ct_X5 (l : Launch) (D : va_G) (cI cL : ClassId) (h0 x1 x2 x3 : Nat) : ct_M l D cI cL yX5_init cX5_init 4 ({ frames := 4, cells := 1, slots := 5, locals := 300 }) h0 [.ref x1, .ref x2, .ref x3] (.inr (5, [.null, .null, .null, .null, .int 0])) (co_X5 cI cL h0 x1 x2 x3) 1 5 := by
  refine ck_met (own := RX5) (by decide) rfl rfl (Nat.le_of_ble_eq_true rfl) rfl (fun sz => ?_)
  refine ck_aload_n 0 rfl e_X5_init_0 ?_
  refine ck_objInit e_X5_init_1 ol_X5 ol_inst ol_code ⟨Nat.le_of_ble_eq_true rfl, Nat.le_of_ble_eq_true rfl⟩ ?_
  refine ck_aload_n 0 rfl e_X5_init_4 ?_
  refine ck_iconst (v := (5 : Int32)) (by decide +kernel) e_X5_init_5 ?_
  refine ck_newi (N := 5) e_X5_init_6 aw_clsI (by decide) (by decide +kernel) (by decide) (Nat.le_of_ble_eq_true rfl) (Nat.le_of_ble_eq_true rfl) (fun q0 => ?_)
  refine ck_eq (ws' := [(h0, .inr (5, [.null, .null, .null, .null, .int 0])), (q0, .inl (cI, 5, .inl (fun _ => 0)))]) rfl ?_
  refine ck_widen (k := 1) (n := 5) (by omega) (by omega) ?_
  refine ck_putF (ws' := [(h0, .inr (5, [.null, .null, .null, .ref q0, .int 0])), (q0, .inl (cI, 5, .inl (fun _ => 0)))]) e_X5_init_8 fl_X5_9 ff_X5_3 lk_X5_9 rfl rfl 0 rfl (Nat.le_of_ble_eq_true rfl) rfl ?_
  refine ck_aload_n 0 rfl e_X5_init_11 ?_
  refine ck_iconst (v := (0 : Int32)) (by decide +kernel) e_X5_init_12 ?_
  refine ck_put (ws' := [(h0, .inr (5, [.null, .null, .null, .ref q0, .int (0 : Int32)])), (q0, .inl (cI, 5, .inl (fun _ => 0)))]) e_X5_init_13 fl_X5_15 fn_X5_4 lk_X5_15 rfl rfl 0 rfl (Nat.le_of_ble_eq_true rfl) rfl ?_
  refine ck_aload_n 0 rfl e_X5_init_16 ?_
  refine ck_aload_n 1 rfl e_X5_init_17 ?_
  refine ck_putF (ws' := [(h0, .inr (5, [.ref x1, .null, .null, .ref q0, .int (0 : Int32)])), (q0, .inl (cI, 5, .inl (fun _ => 0)))]) e_X5_init_18 fl_X5_19 ff_X5_0 lk_X5_19 rfl rfl 0 rfl (Nat.le_of_ble_eq_true rfl) rfl ?_
  refine ck_aload_n 0 rfl e_X5_init_21 ?_
  refine ck_aload_n 2 rfl e_X5_init_22 ?_
  refine ck_putF (ws' := [(h0, .inr (5, [.ref x1, .ref x2, .null, .ref q0, .int (0 : Int32)])), (q0, .inl (cI, 5, .inl (fun _ => 0)))]) e_X5_init_23 fl_X5_23 ff_X5_1 lk_X5_23 rfl rfl 0 rfl (Nat.le_of_ble_eq_true rfl) rfl ?_
  refine ck_aload_n 0 rfl e_X5_init_26 ?_
  refine ck_aload_n 3 rfl e_X5_init_27 ?_
  refine ck_putF (ws' := [(h0, .inr (5, [.ref x1, .ref x2, .ref x3, .ref q0, .int (0 : Int32)])), (q0, .inl (cI, 5, .inl (fun _ => 0)))]) e_X5_init_28 fl_X5_27 ff_X5_2 lk_X5_27 rfl rfl 0 rfl (Nat.le_of_ble_eq_true rfl) rfl ?_
  exact ck_vret (fun i => [q0].getD i 0) e_X5_init_31 rfl [0, 1] (by decide) rfl rfl
def co_X2 (cI cL : ClassId) (h0 x1 x2 : Nat) (u : Nat → Nat) : va_W := [(h0, .inr (2, [.ref x1, .ref x2]))]
set_option maxRecDepth 8000 in
set_option maxHeartbeats 4000000 in
theorem ct_X2 (l : Launch) (D : va_G) (cI cL : ClassId) (h0 x1 x2 : Nat) : ct_M l D cI cL yX2_init cX2_init 3 ({ frames := 4, cells := 0, slots := 0, locals := 300 }) h0 [.ref x1, .ref x2] (.inr (2, [.null, .null])) (co_X2 cI cL h0 x1 x2) 0 0 := by
  refine ck_met (own := RX2) (by decide) rfl rfl (Nat.le_of_ble_eq_true rfl) rfl (fun sz => ?_)
  refine ck_aload_n 0 rfl e_X2_init_0 ?_
  refine ck_objInit e_X2_init_1 ol_X2 ol_inst ol_code ⟨Nat.le_of_ble_eq_true rfl, Nat.le_of_ble_eq_true rfl⟩ ?_
  refine ck_aload_n 0 rfl e_X2_init_4 ?_
  refine ck_aload_n 1 rfl e_X2_init_5 ?_
  refine ck_putF (ws' := [(h0, .inr (2, [.ref x1, .null]))]) e_X2_init_6 fl_X2_9 ff_X2_0 lk_X2_9 rfl rfl 0 rfl (Nat.le_of_ble_eq_true rfl) rfl ?_
  refine ck_aload_n 0 rfl e_X2_init_9 ?_
  refine ck_aload_n 2 rfl e_X2_init_10 ?_
  refine ck_putF (ws' := [(h0, .inr (2, [.ref x1, .ref x2]))]) e_X2_init_11 fl_X2_15 ff_X2_1 lk_X2_15 rfl rfl 0 rfl (Nat.le_of_ble_eq_true rfl) rfl ?_
  exact ck_vret (fun i => [].getD i 0) e_X2_init_14 rfl [0] (by decide) rfl rfl
def co_X1 (cI cL : ClassId) (h0 x1 x2 : Nat) (u : Nat → Nat) : va_W := [(h0, .inr (1, [.ref x1, .ref x2, .int (0 : Int32), .int (0 : Int32), .int (0 : Int32)]))]
set_option maxRecDepth 8000 in
set_option maxHeartbeats 4000000 in
theorem ct_X1 (l : Launch) (D : va_G) (cI cL : ClassId) (h0 x1 x2 : Nat) : ct_M l D cI cL yX1_init cX1_init 3 ({ frames := 4, cells := 0, slots := 0, locals := 300 }) h0 [.ref x1, .ref x2] (.inr (1, [.null, .null, .int 0, .int 0, .int 0])) (co_X1 cI cL h0 x1 x2) 0 0 := by
  refine ck_met (own := RX1) (by decide) rfl rfl (Nat.le_of_ble_eq_true rfl) rfl (fun sz => ?_)
  refine ck_aload_n 0 rfl e_X1_init_0 ?_
  refine ck_objInit e_X1_init_1 ol_X1 ol_inst ol_code ⟨Nat.le_of_ble_eq_true rfl, Nat.le_of_ble_eq_true rfl⟩ ?_
  refine ck_aload_n 0 rfl e_X1_init_4 ?_
  refine ck_iconst (v := (0 : Int32)) (by decide +kernel) e_X1_init_5 ?_
  refine ck_put (ws' := [(h0, .inr (1, [.null, .null, .int (0 : Int32), .int 0, .int 0]))]) e_X1_init_6 fl_X1_7 fn_X1_2 lk_X1_7 rfl rfl 0 rfl (Nat.le_of_ble_eq_true rfl) rfl ?_
  refine ck_aload_n 0 rfl e_X1_init_9 ?_
  refine ck_iconst (v := (0 : Int32)) (by decide +kernel) e_X1_init_10 ?_
  refine ck_put (ws' := [(h0, .inr (1, [.null, .null, .int (0 : Int32), .int (0 : Int32), .int 0]))]) e_X1_init_11 fl_X1_13 fn_X1_3 lk_X1_13 rfl rfl 0 rfl (Nat.le_of_ble_eq_true rfl) rfl ?_
  refine ck_aload_n 0 rfl e_X1_init_14 ?_
  refine ck_iconst (v := (0 : Int32)) (by decide +kernel) e_X1_init_15 ?_
  refine ck_put (ws' := [(h0, .inr (1, [.null, .null, .int (0 : Int32), .int (0 : Int32), .int (0 : Int32)]))]) e_X1_init_16 fl_X1_16 fn_X1_4 lk_X1_16 rfl rfl 0 rfl (Nat.le_of_ble_eq_true rfl) rfl ?_
  refine ck_aload_n 0 rfl e_X1_init_19 ?_
  refine ck_aload_n 1 rfl e_X1_init_20 ?_
  refine ck_putF (ws' := [(h0, .inr (1, [.ref x1, .null, .int (0 : Int32), .int (0 : Int32), .int (0 : Int32)]))]) e_X1_init_21 fl_X1_19 ff_X1_0 lk_X1_19 rfl rfl 0 rfl (Nat.le_of_ble_eq_true rfl) rfl ?_
  refine ck_aload_n 0 rfl e_X1_init_24 ?_
  refine ck_aload_n 2 rfl e_X1_init_25 ?_
  refine ck_putF (ws' := [(h0, .inr (1, [.ref x1, .ref x2, .int (0 : Int32), .int (0 : Int32), .int (0 : Int32)]))]) e_X1_init_26 fl_X1_23 ff_X1_1 lk_X1_23 rfl rfl 0 rfl (Nat.le_of_ble_eq_true rfl) rfl ?_
  exact ck_vret (fun i => [].getD i 0) e_X1_init_29 rfl [0] (by decide) rfl rfl
def co_X7 (cI cL : ClassId) (h0 x1 : Nat) (u : Nat → Nat) : va_W := [(h0, .inr (7, [.ref x1, .ref (u 0), .ref (u 1), .ref (u 2), .int (-1 : Int32), .int (0 : Int32), .int (-1 : Int32), .int (-1 : Int32)])), ((u 0), .inl (cI, 9, .inl (fun _ => 0))), ((u 1), .inl (cI, 20, .inl (fun _ => 0))), ((u 2), .inl (cI, 20, .inl (fun _ => 0)))]
set_option maxRecDepth 8000 in
set_option maxHeartbeats 4000000 in
theorem ct_X7 (l : Launch) (D : va_G) (cI cL : ClassId) (h0 x1 : Nat) : ct_M l D cI cL yX7_init cX7_init 2 ({ frames := 4, cells := 3, slots := 49, locals := 300 }) h0 [.ref x1] (.inr (7, [.null, .null, .null, .null, .int 0, .int 0, .int 0, .int 0])) (co_X7 cI cL h0 x1) 3 49 := by
  refine ck_met (own := RX7) (by decide) rfl rfl (Nat.le_of_ble_eq_true rfl) rfl (fun sz => ?_)
  refine ck_aload_n 0 rfl e_X7_init_0 ?_
  refine ck_objInit e_X7_init_1 ol_X7 ol_inst ol_code ⟨Nat.le_of_ble_eq_true rfl, Nat.le_of_ble_eq_true rfl⟩ ?_
  refine ck_aload_n 0 rfl e_X7_init_4 ?_
  refine ck_bipush (v := (9 : Int32)) (by decide +kernel) e_X7_init_5 ?_
  refine ck_newi (N := 9) e_X7_init_7 aw_clsI (by decide) (by decide +kernel) (by decide) (Nat.le_of_ble_eq_true rfl) (Nat.le_of_ble_eq_true rfl) (fun q0 => ?_)
  refine ck_eq (ws' := [(h0, .inr (7, [.null, .null, .null, .null, .int 0, .int 0, .int 0, .int 0])), (q0, .inl (cI, 9, .inl (fun _ => 0)))]) rfl ?_
  refine ck_widen (k := 1) (n := 9) (by omega) (by omega) ?_
  refine ck_putF (ws' := [(h0, .inr (7, [.null, .ref q0, .null, .null, .int 0, .int 0, .int 0, .int 0])), (q0, .inl (cI, 9, .inl (fun _ => 0)))]) e_X7_init_9 fl_X7_9 ff_X7_1 lk_X7_9 rfl rfl 0 rfl (Nat.le_of_ble_eq_true rfl) rfl ?_
  refine ck_aload_n 0 rfl e_X7_init_12 ?_
  refine ck_bipush (v := (20 : Int32)) (by decide +kernel) e_X7_init_13 ?_
  refine ck_newi (N := 20) e_X7_init_15 aw_clsI (by decide) (by decide +kernel) (by decide) (Nat.le_of_ble_eq_true rfl) (Nat.le_of_ble_eq_true rfl) (fun q1 => ?_)
  refine ck_eq (ws' := [(h0, .inr (7, [.null, .ref q0, .null, .null, .int 0, .int 0, .int 0, .int 0])), (q0, .inl (cI, 9, .inl (fun _ => 0))), (q1, .inl (cI, 20, .inl (fun _ => 0)))]) rfl ?_
  refine ck_widen (k := 2) (n := 29) (by omega) (by omega) ?_
  refine ck_putF (ws' := [(h0, .inr (7, [.null, .ref q0, .ref q1, .null, .int 0, .int 0, .int 0, .int 0])), (q0, .inl (cI, 9, .inl (fun _ => 0))), (q1, .inl (cI, 20, .inl (fun _ => 0)))]) e_X7_init_17 fl_X7_15 ff_X7_2 lk_X7_15 rfl rfl 0 rfl (Nat.le_of_ble_eq_true rfl) rfl ?_
  refine ck_aload_n 0 rfl e_X7_init_20 ?_
  refine ck_bipush (v := (20 : Int32)) (by decide +kernel) e_X7_init_21 ?_
  refine ck_newi (N := 20) e_X7_init_23 aw_clsI (by decide) (by decide +kernel) (by decide) (Nat.le_of_ble_eq_true rfl) (Nat.le_of_ble_eq_true rfl) (fun q2 => ?_)
  refine ck_eq (ws' := [(h0, .inr (7, [.null, .ref q0, .ref q1, .null, .int 0, .int 0, .int 0, .int 0])), (q0, .inl (cI, 9, .inl (fun _ => 0))), (q1, .inl (cI, 20, .inl (fun _ => 0))), (q2, .inl (cI, 20, .inl (fun _ => 0)))]) rfl ?_
  refine ck_widen (k := 3) (n := 49) (by omega) (by omega) ?_
  refine ck_putF (ws' := [(h0, .inr (7, [.null, .ref q0, .ref q1, .ref q2, .int 0, .int 0, .int 0, .int 0])), (q0, .inl (cI, 9, .inl (fun _ => 0))), (q1, .inl (cI, 20, .inl (fun _ => 0))), (q2, .inl (cI, 20, .inl (fun _ => 0)))]) e_X7_init_25 fl_X7_18 ff_X7_3 lk_X7_18 rfl rfl 0 rfl (Nat.le_of_ble_eq_true rfl) rfl ?_
  refine ck_aload_n 0 rfl e_X7_init_28 ?_
  refine ck_iconst (v := (-1 : Int32)) (by decide +kernel) e_X7_init_29 ?_
  refine ck_put (ws' := [(h0, .inr (7, [.null, .ref q0, .ref q1, .ref q2, .int (-1 : Int32), .int 0, .int 0, .int 0])), (q0, .inl (cI, 9, .inl (fun _ => 0))), (q1, .inl (cI, 20, .inl (fun _ => 0))), (q2, .inl (cI, 20, .inl (fun _ => 0)))]) e_X7_init_30 fl_X7_21 fn_X7_4 lk_X7_21 rfl rfl 0 rfl (Nat.le_of_ble_eq_true rfl) rfl ?_
  refine ck_aload_n 0 rfl e_X7_init_33 ?_
  refine ck_iconst (v := (0 : Int32)) (by decide +kernel) e_X7_init_34 ?_
  refine ck_put (ws' := [(h0, .inr (7, [.null, .ref q0, .ref q1, .ref q2, .int (-1 : Int32), .int (0 : Int32), .int 0, .int 0])), (q0, .inl (cI, 9, .inl (fun _ => 0))), (q1, .inl (cI, 20, .inl (fun _ => 0))), (q2, .inl (cI, 20, .inl (fun _ => 0)))]) e_X7_init_35 fl_X7_25 fn_X7_5 lk_X7_25 rfl rfl 0 rfl (Nat.le_of_ble_eq_true rfl) rfl ?_
  refine ck_aload_n 0 rfl e_X7_init_38 ?_
  refine ck_iconst (v := (-1 : Int32)) (by decide +kernel) e_X7_init_39 ?_
  refine ck_put (ws' := [(h0, .inr (7, [.null, .ref q0, .ref q1, .ref q2, .int (-1 : Int32), .int (0 : Int32), .int (-1 : Int32), .int 0])), (q0, .inl (cI, 9, .inl (fun _ => 0))), (q1, .inl (cI, 20, .inl (fun _ => 0))), (q2, .inl (cI, 20, .inl (fun _ => 0)))]) e_X7_init_40 fl_X7_29 fn_X7_6 lk_X7_29 rfl rfl 0 rfl (Nat.le_of_ble_eq_true rfl) rfl ?_
  refine ck_aload_n 0 rfl e_X7_init_43 ?_
  refine ck_iconst (v := (-1 : Int32)) (by decide +kernel) e_X7_init_44 ?_
  refine ck_put (ws' := [(h0, .inr (7, [.null, .ref q0, .ref q1, .ref q2, .int (-1 : Int32), .int (0 : Int32), .int (-1 : Int32), .int (-1 : Int32)])), (q0, .inl (cI, 9, .inl (fun _ => 0))), (q1, .inl (cI, 20, .inl (fun _ => 0))), (q2, .inl (cI, 20, .inl (fun _ => 0)))]) e_X7_init_45 fl_X7_32 fn_X7_7 lk_X7_32 rfl rfl 0 rfl (Nat.le_of_ble_eq_true rfl) rfl ?_
  refine ck_aload_n 0 rfl e_X7_init_48 ?_
  refine ck_aload_n 1 rfl e_X7_init_49 ?_
  refine ck_putF (ws' := [(h0, .inr (7, [.ref x1, .ref q0, .ref q1, .ref q2, .int (-1 : Int32), .int (0 : Int32), .int (-1 : Int32), .int (-1 : Int32)])), (q0, .inl (cI, 9, .inl (fun _ => 0))), (q1, .inl (cI, 20, .inl (fun _ => 0))), (q2, .inl (cI, 20, .inl (fun _ => 0)))]) e_X7_init_50 fl_X7_35 ff_X7_0 lk_X7_35 rfl rfl 0 rfl (Nat.le_of_ble_eq_true rfl) rfl ?_
  exact ck_vret (fun i => [q0, q1, q2].getD i 0) e_X7_init_53 rfl [0, 1, 2, 3] (by decide) rfl rfl
def co_X0 (cI cL : ClassId) (h0 x1 : Nat) (u : Nat → Nat) : va_W := [(h0, .inr (0, [.ref x1, .ref (u 0), .ref (u 1)])), ((u 0), .inl (cI, 5, .inl (fun _ => 0))), ((u 1), .inl (cI, 5, .inl (fun _ => 0)))]
set_option maxRecDepth 8000 in
set_option maxHeartbeats 4000000 in
theorem ct_X0 (l : Launch) (D : va_G) (cI cL : ClassId) (h0 x1 : Nat) : ct_M l D cI cL yX0_init cX0_init 2 ({ frames := 4, cells := 2, slots := 10, locals := 300 }) h0 [.ref x1] (.inr (0, [.null, .null, .null])) (co_X0 cI cL h0 x1) 2 10 := by
  refine ck_met (own := RX0) (by decide) rfl rfl (Nat.le_of_ble_eq_true rfl) rfl (fun sz => ?_)
  refine ck_aload_n 0 rfl e_X0_init_0 ?_
  refine ck_objInit e_X0_init_1 ol_X0 ol_inst ol_code ⟨Nat.le_of_ble_eq_true rfl, Nat.le_of_ble_eq_true rfl⟩ ?_
  refine ck_aload_n 0 rfl e_X0_init_4 ?_
  refine ck_iconst (v := (5 : Int32)) (by decide +kernel) e_X0_init_5 ?_
  refine ck_newi (N := 5) e_X0_init_6 aw_clsI (by decide) (by decide +kernel) (by decide) (Nat.le_of_ble_eq_true rfl) (Nat.le_of_ble_eq_true rfl) (fun q0 => ?_)
  refine ck_eq (ws' := [(h0, .inr (0, [.null, .null, .null])), (q0, .inl (cI, 5, .inl (fun _ => 0)))]) rfl ?_
  refine ck_widen (k := 1) (n := 5) (by omega) (by omega) ?_
  refine ck_putF (ws' := [(h0, .inr (0, [.null, .ref q0, .null])), (q0, .inl (cI, 5, .inl (fun _ => 0)))]) e_X0_init_8 fl_X0_9 ff_X0_1 lk_X0_9 rfl rfl 0 rfl (Nat.le_of_ble_eq_true rfl) rfl ?_
  refine ck_aload_n 0 rfl e_X0_init_11 ?_
  refine ck_iconst (v := (5 : Int32)) (by decide +kernel) e_X0_init_12 ?_
  refine ck_newi (N := 5) e_X0_init_13 aw_clsI (by decide) (by decide +kernel) (by decide) (Nat.le_of_ble_eq_true rfl) (Nat.le_of_ble_eq_true rfl) (fun q1 => ?_)
  refine ck_eq (ws' := [(h0, .inr (0, [.null, .ref q0, .null])), (q0, .inl (cI, 5, .inl (fun _ => 0))), (q1, .inl (cI, 5, .inl (fun _ => 0)))]) rfl ?_
  refine ck_widen (k := 2) (n := 10) (by omega) (by omega) ?_
  refine ck_putF (ws' := [(h0, .inr (0, [.null, .ref q0, .ref q1])), (q0, .inl (cI, 5, .inl (fun _ => 0))), (q1, .inl (cI, 5, .inl (fun _ => 0)))]) e_X0_init_15 fl_X0_15 ff_X0_2 lk_X0_15 rfl rfl 0 rfl (Nat.le_of_ble_eq_true rfl) rfl ?_
  refine ck_aload_n 0 rfl e_X0_init_18 ?_
  refine ck_aload_n 1 rfl e_X0_init_19 ?_
  refine ck_putF (ws' := [(h0, .inr (0, [.ref x1, .ref q0, .ref q1])), (q0, .inl (cI, 5, .inl (fun _ => 0))), (q1, .inl (cI, 5, .inl (fun _ => 0)))]) e_X0_init_20 fl_X0_18 ff_X0_0 lk_X0_18 rfl rfl 0 rfl (Nat.le_of_ble_eq_true rfl) rfl ?_
  exact ck_vret (fun i => [q0, q1].getD i 0) e_X0_init_23 rfl [0, 1, 2] (by decide) rfl rfl
def co_X8 (cI cL : ClassId) (h0 x1 : Nat) (u : Nat → Nat) : va_W := [(h0, .inr (8, [.ref x1, .ref (u 0), .ref (u 1)])), ((u 0), .inl (cI, 9, .inl (fun _ => 0))), ((u 1), .inl (cI, 10, .inl (fun _ => 0)))]
set_option maxRecDepth 8000 in
set_option maxHeartbeats 4000000 in
theorem ct_X8 (l : Launch) (D : va_G) (cI cL : ClassId) (h0 x1 : Nat) : ct_M l D cI cL yX8_init cX8_init 2 ({ frames := 4, cells := 2, slots := 19, locals := 300 }) h0 [.ref x1] (.inr (8, [.null, .null, .null])) (co_X8 cI cL h0 x1) 2 19 := by
  refine ck_met (own := RX8) (by decide) rfl rfl (Nat.le_of_ble_eq_true rfl) rfl (fun sz => ?_)
  refine ck_aload_n 0 rfl e_X8_init_0 ?_
  refine ck_objInit e_X8_init_1 ol_X8 ol_inst ol_code ⟨Nat.le_of_ble_eq_true rfl, Nat.le_of_ble_eq_true rfl⟩ ?_
  refine ck_aload_n 0 rfl e_X8_init_4 ?_
  refine ck_bipush (v := (9 : Int32)) (by decide +kernel) e_X8_init_5 ?_
  refine ck_newi (N := 9) e_X8_init_7 aw_clsI (by decide) (by decide +kernel) (by decide) (Nat.le_of_ble_eq_true rfl) (Nat.le_of_ble_eq_true rfl) (fun q0 => ?_)
  refine ck_eq (ws' := [(h0, .inr (8, [.null, .null, .null])), (q0, .inl (cI, 9, .inl (fun _ => 0)))]) rfl ?_
  refine ck_widen (k := 1) (n := 9) (by omega) (by omega) ?_
  refine ck_putF (ws' := [(h0, .inr (8, [.null, .ref q0, .null])), (q0, .inl (cI, 9, .inl (fun _ => 0)))]) e_X8_init_9 fl_X8_9 ff_X8_1 lk_X8_9 rfl rfl 0 rfl (Nat.le_of_ble_eq_true rfl) rfl ?_
  refine ck_aload_n 0 rfl e_X8_init_12 ?_
  refine ck_bipush (v := (10 : Int32)) (by decide +kernel) e_X8_init_13 ?_
  refine ck_newi (N := 10) e_X8_init_15 aw_clsI (by decide) (by decide +kernel) (by decide) (Nat.le_of_ble_eq_true rfl) (Nat.le_of_ble_eq_true rfl) (fun q1 => ?_)
  refine ck_eq (ws' := [(h0, .inr (8, [.null, .ref q0, .null])), (q0, .inl (cI, 9, .inl (fun _ => 0))), (q1, .inl (cI, 10, .inl (fun _ => 0)))]) rfl ?_
  refine ck_widen (k := 2) (n := 19) (by omega) (by omega) ?_
  refine ck_putF (ws' := [(h0, .inr (8, [.null, .ref q0, .ref q1])), (q0, .inl (cI, 9, .inl (fun _ => 0))), (q1, .inl (cI, 10, .inl (fun _ => 0)))]) e_X8_init_17 fl_X8_15 ff_X8_2 lk_X8_15 rfl rfl 0 rfl (Nat.le_of_ble_eq_true rfl) rfl ?_
  refine ck_aload_n 0 rfl e_X8_init_20 ?_
  refine ck_aload_n 1 rfl e_X8_init_21 ?_
  refine ck_putF (ws' := [(h0, .inr (8, [.ref x1, .ref q0, .ref q1])), (q0, .inl (cI, 9, .inl (fun _ => 0))), (q1, .inl (cI, 10, .inl (fun _ => 0)))]) e_X8_init_22 fl_X8_18 ff_X8_0 lk_X8_18 rfl rfl 0 rfl (Nat.le_of_ble_eq_true rfl) rfl ?_
  exact ck_vret (fun i => [q0, q1].getD i 0) e_X8_init_25 rfl [0, 1, 2] (by decide) rfl rfl
def co_X9 (cI cL : ClassId) (h0 x1 : Nat) (u : Nat → Nat) : va_W := [(h0, .inr (9, [.ref x1, .ref (u 0), .ref (u 1), .ref (u 2), .ref (u 3), .int (1 : Int32), .int (0 : Int32)])), ((u 0), .inl (cI, 6, .inl (fun _ => 0))), ((u 1), .inl (cI, 128, .inl (fun _ => 0))), ((u 2), .inl (cI, 128, .inl (fun _ => 0))), ((u 3), .inl (cI, 128, .inl (fun _ => 0)))]
set_option maxRecDepth 8000 in
set_option maxHeartbeats 4000000 in
theorem ct_X9 (l : Launch) (D : va_G) (cI cL : ClassId) (h0 x1 : Nat) : ct_M l D cI cL yX9_init cX9_init 2 ({ frames := 4, cells := 4, slots := 390, locals := 300 }) h0 [.ref x1] (.inr (9, [.null, .null, .null, .null, .null, .int 0, .int 0])) (co_X9 cI cL h0 x1) 4 390 := by
  refine ck_met (own := RX9) (by decide) rfl rfl (Nat.le_of_ble_eq_true rfl) rfl (fun sz => ?_)
  refine ck_aload_n 0 rfl e_X9_init_0 ?_
  refine ck_objInit e_X9_init_1 ol_X9 ol_inst ol_code ⟨Nat.le_of_ble_eq_true rfl, Nat.le_of_ble_eq_true rfl⟩ ?_
  refine ck_aload_n 0 rfl e_X9_init_4 ?_
  refine ck_bipush (v := (6 : Int32)) (by decide +kernel) e_X9_init_5 ?_
  refine ck_newi (N := 6) e_X9_init_7 aw_clsI (by decide) (by decide +kernel) (by decide) (Nat.le_of_ble_eq_true rfl) (Nat.le_of_ble_eq_true rfl) (fun q0 => ?_)
  refine ck_eq (ws' := [(h0, .inr (9, [.null, .null, .null, .null, .null, .int 0, .int 0])), (q0, .inl (cI, 6, .inl (fun _ => 0)))]) rfl ?_
  refine ck_widen (k := 1) (n := 6) (by omega) (by omega) ?_
  refine ck_putF (ws' := [(h0, .inr (9, [.null, .ref q0, .null, .null, .null, .int 0, .int 0])), (q0, .inl (cI, 6, .inl (fun _ => 0)))]) e_X9_init_9 fl_X9_11 ff_X9_1 lk_X9_11 rfl rfl 0 rfl (Nat.le_of_ble_eq_true rfl) rfl ?_
  refine ck_aload_n 0 rfl e_X9_init_12 ?_
  refine ck_sipush (v := (128 : Int32)) (by decide +kernel) e_X9_init_13 ?_
  refine ck_newi (N := 128) e_X9_init_16 aw_clsI (by decide) (by decide +kernel) (by decide) (Nat.le_of_ble_eq_true rfl) (Nat.le_of_ble_eq_true rfl) (fun q1 => ?_)
  refine ck_eq (ws' := [(h0, .inr (9, [.null, .ref q0, .null, .null, .null, .int 0, .int 0])), (q0, .inl (cI, 6, .inl (fun _ => 0))), (q1, .inl (cI, 128, .inl (fun _ => 0)))]) rfl ?_
  refine ck_widen (k := 2) (n := 134) (by omega) (by omega) ?_
  refine ck_putF (ws' := [(h0, .inr (9, [.null, .ref q0, .ref q1, .null, .null, .int 0, .int 0])), (q0, .inl (cI, 6, .inl (fun _ => 0))), (q1, .inl (cI, 128, .inl (fun _ => 0)))]) e_X9_init_18 fl_X9_15 ff_X9_2 lk_X9_15 rfl rfl 0 rfl (Nat.le_of_ble_eq_true rfl) rfl ?_
  refine ck_aload_n 0 rfl e_X9_init_21 ?_
  refine ck_sipush (v := (128 : Int32)) (by decide +kernel) e_X9_init_22 ?_
  refine ck_newi (N := 128) e_X9_init_25 aw_clsI (by decide) (by decide +kernel) (by decide) (Nat.le_of_ble_eq_true rfl) (Nat.le_of_ble_eq_true rfl) (fun q2 => ?_)
  refine ck_eq (ws' := [(h0, .inr (9, [.null, .ref q0, .ref q1, .null, .null, .int 0, .int 0])), (q0, .inl (cI, 6, .inl (fun _ => 0))), (q1, .inl (cI, 128, .inl (fun _ => 0))), (q2, .inl (cI, 128, .inl (fun _ => 0)))]) rfl ?_
  refine ck_widen (k := 3) (n := 262) (by omega) (by omega) ?_
  refine ck_putF (ws' := [(h0, .inr (9, [.null, .ref q0, .ref q1, .ref q2, .null, .int 0, .int 0])), (q0, .inl (cI, 6, .inl (fun _ => 0))), (q1, .inl (cI, 128, .inl (fun _ => 0))), (q2, .inl (cI, 128, .inl (fun _ => 0)))]) e_X9_init_27 fl_X9_18 ff_X9_3 lk_X9_18 rfl rfl 0 rfl (Nat.le_of_ble_eq_true rfl) rfl ?_
  refine ck_aload_n 0 rfl e_X9_init_30 ?_
  refine ck_sipush (v := (128 : Int32)) (by decide +kernel) e_X9_init_31 ?_
  refine ck_newi (N := 128) e_X9_init_34 aw_clsI (by decide) (by decide +kernel) (by decide) (Nat.le_of_ble_eq_true rfl) (Nat.le_of_ble_eq_true rfl) (fun q3 => ?_)
  refine ck_eq (ws' := [(h0, .inr (9, [.null, .ref q0, .ref q1, .ref q2, .null, .int 0, .int 0])), (q0, .inl (cI, 6, .inl (fun _ => 0))), (q1, .inl (cI, 128, .inl (fun _ => 0))), (q2, .inl (cI, 128, .inl (fun _ => 0))), (q3, .inl (cI, 128, .inl (fun _ => 0)))]) rfl ?_
  refine ck_widen (k := 4) (n := 390) (by omega) (by omega) ?_
  refine ck_putF (ws' := [(h0, .inr (9, [.null, .ref q0, .ref q1, .ref q2, .ref q3, .int 0, .int 0])), (q0, .inl (cI, 6, .inl (fun _ => 0))), (q1, .inl (cI, 128, .inl (fun _ => 0))), (q2, .inl (cI, 128, .inl (fun _ => 0))), (q3, .inl (cI, 128, .inl (fun _ => 0)))]) e_X9_init_36 fl_X9_21 ff_X9_4 lk_X9_21 rfl rfl 0 rfl (Nat.le_of_ble_eq_true rfl) rfl ?_
  refine ck_aload_n 0 rfl e_X9_init_39 ?_
  refine ck_iconst (v := (1 : Int32)) (by decide +kernel) e_X9_init_40 ?_
  refine ck_put (ws' := [(h0, .inr (9, [.null, .ref q0, .ref q1, .ref q2, .ref q3, .int (1 : Int32), .int 0])), (q0, .inl (cI, 6, .inl (fun _ => 0))), (q1, .inl (cI, 128, .inl (fun _ => 0))), (q2, .inl (cI, 128, .inl (fun _ => 0))), (q3, .inl (cI, 128, .inl (fun _ => 0)))]) e_X9_init_41 fl_X9_24 fn_X9_5 lk_X9_24 rfl rfl 0 rfl (Nat.le_of_ble_eq_true rfl) rfl ?_
  refine ck_aload_n 0 rfl e_X9_init_44 ?_
  refine ck_iconst (v := (0 : Int32)) (by decide +kernel) e_X9_init_45 ?_
  refine ck_put (ws' := [(h0, .inr (9, [.null, .ref q0, .ref q1, .ref q2, .ref q3, .int (1 : Int32), .int (0 : Int32)])), (q0, .inl (cI, 6, .inl (fun _ => 0))), (q1, .inl (cI, 128, .inl (fun _ => 0))), (q2, .inl (cI, 128, .inl (fun _ => 0))), (q3, .inl (cI, 128, .inl (fun _ => 0)))]) e_X9_init_46 fl_X9_28 fn_X9_6 lk_X9_28 rfl rfl 0 rfl (Nat.le_of_ble_eq_true rfl) rfl ?_
  refine ck_aload_n 0 rfl e_X9_init_49 ?_
  refine ck_aload_n 1 rfl e_X9_init_50 ?_
  refine ck_putF (ws' := [(h0, .inr (9, [.ref x1, .ref q0, .ref q1, .ref q2, .ref q3, .int (1 : Int32), .int (0 : Int32)])), (q0, .inl (cI, 6, .inl (fun _ => 0))), (q1, .inl (cI, 128, .inl (fun _ => 0))), (q2, .inl (cI, 128, .inl (fun _ => 0))), (q3, .inl (cI, 128, .inl (fun _ => 0)))]) e_X9_init_51 fl_X9_31 ff_X9_0 lk_X9_31 rfl rfl 0 rfl (Nat.le_of_ble_eq_true rfl) rfl ?_
  exact ck_vret (fun i => [q0, q1, q2, q3].getD i 0) e_X9_init_54 rfl [0, 1, 2, 3, 4] (by decide) rfl rfl
def co_X10 (cI cL : ClassId) (h0 : Nat) (u : Nat → Nat) : va_W := [(h0, .inr (10, [.ref (u 0), .ref (u 6), .ref (u 9), .ref (u 11), .ref (u 13), .ref (u 14), .ref (u 15), .ref (u 19), .ref (u 22), .ref (u 25), .ref (u 30), .ref (u 31), .int (0 : Int32)])), ((u 0), .inr (6, [.ref (u 1), .ref (u 2), .ref (u 3), .ref (u 4), .ref (u 5), .int (1 : Int32), .int (0 : Int32), .int (0 : Int32)])), ((u 1), .inl (cI, 20, .inl (fun _ => 0))), ((u 2), .inl (cI, 20, .inl (fun _ => 0))), ((u 3), .inl (cI, 20, .inl (fun _ => 0))), ((u 4), .inl (cI, 9, .inl (fun _ => 0))), ((u 5), .inl (cI, 9, .inl (fun _ => 0))), ((u 6), .inr (3, [.ref (u 0), .ref (u 8), .ref (u 7)])), ((u 7), .inl (cI, 9, .inl (fun _ => 0))), ((u 8), .inl (cI, 20, .inl (fun _ => -1))), ((u 9), .inr (4, [.ref (u 0), .ref (u 6), .ref (u 10), .int (0 : Int32)])), ((u 10), .inl (cI, 9, .inl (fun _ => 0))), ((u 11), .inr (5, [.ref (u 0), .ref (u 6), .ref (u 9), .ref (u 12), .int (0 : Int32)])), ((u 12), .inl (cI, 5, .inl (fun _ => 0))), ((u 13), .inr (2, [.ref (u 0), .ref (u 6)])), ((u 14), .inr (1, [.ref (u 0), .ref (u 6), .int (0 : Int32), .int (0 : Int32), .int (0 : Int32)])), ((u 15), .inr (7, [.ref (u 0), .ref (u 16), .ref (u 17), .ref (u 18), .int (-1 : Int32), .int (0 : Int32), .int (-1 : Int32), .int (-1 : Int32)])), ((u 16), .inl (cI, 9, .inl (fun _ => 0))), ((u 17), .inl (cI, 20, .inl (fun _ => 0))), ((u 18), .inl (cI, 20, .inl (fun _ => 0))), ((u 19), .inr (0, [.ref (u 0), .ref (u 20), .ref (u 21)])), ((u 20), .inl (cI, 5, .inl (fun _ => 0))), ((u 21), .inl (cI, 5, .inl (fun _ => 0))), ((u 22), .inr (8, [.ref (u 0), .ref (u 23), .ref (u 24)])), ((u 23), .inl (cI, 9, .inl (fun _ => 0))), ((u 24), .inl (cI, 10, .inl (fun _ => 0))), ((u 25), .inr (9, [.ref (u 0), .ref (u 26), .ref (u 27), .ref (u 28), .ref (u 29), .int (1 : Int32), .int (0 : Int32)])), ((u 26), .inl (cI, 6, .inl (fun _ => 0))), ((u 27), .inl (cI, 128, .inl (fun _ => 0))), ((u 28), .inl (cI, 128, .inl (fun _ => 0))), ((u 29), .inl (cI, 128, .inl (fun _ => 0))), ((u 30), .inl (cI, 20, .inl (fun _ => 0))), ((u 31), .inl (cI, 20, .inl (fun _ => 0)))]
set_option maxRecDepth 8000 in
set_option maxHeartbeats 4000000 in
theorem ct_X10 (l : Launch) (D : va_G) (cI cL : ClassId) (h0 : Nat) : ct_M l D cI cL yX10_init cX10_init 1 ({ frames := 6, cells := 32, slots := 677, locals := 600 }) h0 [] (.inr (10, [.null, .null, .null, .null, .null, .null, .null, .null, .null, .null, .null, .null, .int 0])) (co_X10 cI cL h0) 32 677 := by
  refine ck_met (own := RX10) (by decide) rfl rfl (Nat.le_of_ble_eq_true rfl) rfl (fun sz => ?_)
  refine ck_aload_n 0 rfl e_X10_init_0 ?_
  refine ck_objInit e_X10_init_1 ol_X10 ol_inst ol_code ⟨Nat.le_of_ble_eq_true rfl, Nat.le_of_ble_eq_true rfl⟩ ?_
  refine ck_aload_n 0 rfl e_X10_init_4 ?_
  refine ck_new (ci := 6) (fs := [.null, .null, .null, .null, .null, .int 0, .int 0, .int 0]) (C' := RX6) (T := TX6) (N := 8) e_X10_init_5 rfl ws_X6 tyX6_ok cl_X10_7 in_X6 ini_X6 dv_X6 (Nat.le_of_ble_eq_true rfl) (Nat.le_of_ble_eq_true rfl) (fun q0 => ?_)
  refine ck_eq (ws' := [(h0, .inr (10, [.null, .null, .null, .null, .null, .null, .null, .null, .null, .null, .null, .null, .int 0])), (q0, .inr (6, [.null, .null, .null, .null, .null, .int 0, .int 0, .int 0]))]) rfl ?_
  refine ck_widen (k := 1) (n := 8) (by omega) (by omega) ?_
  refine ck_dup rfl e_X10_init_8 ?_
  refine ck_init (av := []) (rest := [.ref q0, .ref h0]) e_X10_init_9 (ct_X6 l D cI cL q0) il_X10_9 rfl ⟨rfl, rfl, Nat.le_of_ble_eq_true rfl, Nat.le_of_ble_eq_true rfl, Nat.le_of_ble_eq_true rfl, Nat.le_of_ble_eq_true rfl⟩ (Nat.le_of_ble_eq_true rfl) rfl 1 [0] [(h0, .inr (10, [.null, .null, .null, .null, .null, .null, .null, .null, .null, .null, .null, .null, .int 0]))] rfl rfl (by decide) (by decide) (fun u1 => ?_)
  refine ck_eq (ws' := [(h0, .inr (10, [.null, .null, .null, .null, .null, .null, .null, .null, .null, .null, .null, .null, .int 0])), (q0, .inr (6, [.ref (u1 0), .ref (u1 1), .ref (u1 2), .ref (u1 3), .ref (u1 4), .int (1 : Int32), .int (0 : Int32), .int (0 : Int32)])), ((u1 0), .inl (cI, 20, .inl (fun _ => 0))), ((u1 1), .inl (cI, 20, .inl (fun _ => 0))), ((u1 2), .inl (cI, 20, .inl (fun _ => 0))), ((u1 3), .inl (cI, 9, .inl (fun _ => 0))), ((u1 4), .inl (cI, 9, .inl (fun _ => 0)))]) rfl ?_
  refine ck_widen (k := 6) (n := 86) (by omega) (by omega) ?_
  refine ck_putF (ws' := [(h0, .inr (10, [.ref q0, .null, .null, .null, .null, .null, .null, .null, .null, .null, .null, .null, .int 0])), (q0, .inr (6, [.ref (u1 0), .ref (u1 1), .ref (u1 2), .ref (u1 3), .ref (u1 4), .int (1 : Int32), .int (0 : Int32), .int (0 : Int32)])), ((u1 0), .inl (cI, 20, .inl (fun _ => 0))), ((u1 1), .inl (cI, 20, .inl (fun _ => 0))), ((u1 2), .inl (cI, 20, .inl (fun _ => 0))), ((u1 3), .inl (cI, 9, .inl (fun _ => 0))), ((u1 4), .inl (cI, 9, .inl (fun _ => 0)))]) e_X10_init_12 fl_X10_10 ff_X10_0 lk_X10_10 rfl rfl 0 rfl (Nat.le_of_ble_eq_true rfl) rfl ?_
  refine ck_aload_n 0 rfl e_X10_init_15 ?_
  refine ck_new (ci := 3) (fs := [.null, .null, .null]) (C' := RX3) (T := TX3) (N := 3) e_X10_init_16 rfl ws_X3 tyX3_ok cl_X10_16 in_X3 ini_X3 dv_X3 (Nat.le_of_ble_eq_true rfl) (Nat.le_of_ble_eq_true rfl) (fun q2 => ?_)
  refine ck_eq (ws' := [(h0, .inr (10, [.ref q0, .null, .null, .null, .null, .null, .null, .null, .null, .null, .null, .null, .int 0])), (q0, .inr (6, [.ref (u1 0), .ref (u1 1), .ref (u1 2), .ref (u1 3), .ref (u1 4), .int (1 : Int32), .int (0 : Int32), .int (0 : Int32)])), ((u1 0), .inl (cI, 20, .inl (fun _ => 0))), ((u1 1), .inl (cI, 20, .inl (fun _ => 0))), ((u1 2), .inl (cI, 20, .inl (fun _ => 0))), ((u1 3), .inl (cI, 9, .inl (fun _ => 0))), ((u1 4), .inl (cI, 9, .inl (fun _ => 0))), (q2, .inr (3, [.null, .null, .null]))]) rfl ?_
  refine ck_widen (k := 7) (n := 89) (by omega) (by omega) ?_
  refine ck_dup rfl e_X10_init_19 ?_
  refine ck_aload_n 0 rfl e_X10_init_20 ?_
  refine ck_get (v := .ref q0) e_X10_init_21 fl_X10_10 0 rfl rfl ?_
  refine ck_init (av := [.ref q0]) (rest := [.ref q2, .ref h0]) e_X10_init_24 (ct_X3 l D cI cL q2 q0) il_X10_18 rfl ⟨rfl, rfl, Nat.le_of_ble_eq_true rfl, Nat.le_of_ble_eq_true rfl, Nat.le_of_ble_eq_true rfl, Nat.le_of_ble_eq_true rfl⟩ (Nat.le_of_ble_eq_true rfl) rfl 7 [0, 1, 2, 3, 4, 5, 6] [(h0, .inr (10, [.ref q0, .null, .null, .null, .null, .null, .null, .null, .null, .null, .null, .null, .int 0])), (q0, .inr (6, [.ref (u1 0), .ref (u1 1), .ref (u1 2), .ref (u1 3), .ref (u1 4), .int (1 : Int32), .int (0 : Int32), .int (0 : Int32)])), ((u1 0), .inl (cI, 20, .inl (fun _ => 0))), ((u1 1), .inl (cI, 20, .inl (fun _ => 0))), ((u1 2), .inl (cI, 20, .inl (fun _ => 0))), ((u1 3), .inl (cI, 9, .inl (fun _ => 0))), ((u1 4), .inl (cI, 9, .inl (fun _ => 0)))] rfl rfl (by decide) (by decide) (fun u3 => ?_)
  refine ck_eq (ws' := [(h0, .inr (10, [.ref q0, .null, .null, .null, .null, .null, .null, .null, .null, .null, .null, .null, .int 0])), (q0, .inr (6, [.ref (u1 0), .ref (u1 1), .ref (u1 2), .ref (u1 3), .ref (u1 4), .int (1 : Int32), .int (0 : Int32), .int (0 : Int32)])), ((u1 0), .inl (cI, 20, .inl (fun _ => 0))), ((u1 1), .inl (cI, 20, .inl (fun _ => 0))), ((u1 2), .inl (cI, 20, .inl (fun _ => 0))), ((u1 3), .inl (cI, 9, .inl (fun _ => 0))), ((u1 4), .inl (cI, 9, .inl (fun _ => 0))), (q2, .inr (3, [.ref q0, .ref (u3 1), .ref (u3 0)])), ((u3 0), .inl (cI, 9, .inl (fun _ => 0))), ((u3 1), .inl (cI, 20, .inl (fun _ => -1)))]) rfl ?_
  refine ck_widen (k := 9) (n := 118) (by omega) (by omega) ?_
  refine ck_putF (ws' := [(h0, .inr (10, [.ref q0, .ref q2, .null, .null, .null, .null, .null, .null, .null, .null, .null, .null, .int 0])), (q0, .inr (6, [.ref (u1 0), .ref (u1 1), .ref (u1 2), .ref (u1 3), .ref (u1 4), .int (1 : Int32), .int (0 : Int32), .int (0 : Int32)])), ((u1 0), .inl (cI, 20, .inl (fun _ => 0))), ((u1 1), .inl (cI, 20, .inl (fun _ => 0))), ((u1 2), .inl (cI, 20, .inl (fun _ => 0))), ((u1 3), .inl (cI, 9, .inl (fun _ => 0))), ((u1 4), .inl (cI, 9, .inl (fun _ => 0))), (q2, .inr (3, [.ref q0, .ref (u3 1), .ref (u3 0)])), ((u3 0), .inl (cI, 9, .inl (fun _ => 0))), ((u3 1), .inl (cI, 20, .inl (fun _ => -1)))]) e_X10_init_27 fl_X10_21 ff_X10_1 lk_X10_21 rfl rfl 0 rfl (Nat.le_of_ble_eq_true rfl) rfl ?_
  refine ck_aload_n 0 rfl e_X10_init_30 ?_
  refine ck_new (ci := 4) (fs := [.null, .null, .null, .int 0]) (C' := RX4) (T := TX4) (N := 4) e_X10_init_31 rfl ws_X4 tyX4_ok cl_X10_25 in_X4 ini_X4 dv_X4 (Nat.le_of_ble_eq_true rfl) (Nat.le_of_ble_eq_true rfl) (fun q4 => ?_)
  refine ck_eq (ws' := [(h0, .inr (10, [.ref q0, .ref q2, .null, .null, .null, .null, .null, .null, .null, .null, .null, .null, .int 0])), (q0, .inr (6, [.ref (u1 0), .ref (u1 1), .ref (u1 2), .ref (u1 3), .ref (u1 4), .int (1 : Int32), .int (0 : Int32), .int (0 : Int32)])), ((u1 0), .inl (cI, 20, .inl (fun _ => 0))), ((u1 1), .inl (cI, 20, .inl (fun _ => 0))), ((u1 2), .inl (cI, 20, .inl (fun _ => 0))), ((u1 3), .inl (cI, 9, .inl (fun _ => 0))), ((u1 4), .inl (cI, 9, .inl (fun _ => 0))), (q2, .inr (3, [.ref q0, .ref (u3 1), .ref (u3 0)])), ((u3 0), .inl (cI, 9, .inl (fun _ => 0))), ((u3 1), .inl (cI, 20, .inl (fun _ => -1))), (q4, .inr (4, [.null, .null, .null, .int 0]))]) rfl ?_
  refine ck_widen (k := 10) (n := 122) (by omega) (by omega) ?_
  refine ck_dup rfl e_X10_init_34 ?_
  refine ck_aload_n 0 rfl e_X10_init_35 ?_
  refine ck_get (v := .ref q0) e_X10_init_36 fl_X10_10 0 rfl rfl ?_
  refine ck_aload_n 0 rfl e_X10_init_39 ?_
  refine ck_get (v := .ref q2) e_X10_init_40 fl_X10_21 0 rfl rfl ?_
  refine ck_init (av := [.ref q0, .ref q2]) (rest := [.ref q4, .ref h0]) e_X10_init_43 (ct_X4 l D cI cL q4 q0 q2) il_X10_27 rfl ⟨rfl, rfl, Nat.le_of_ble_eq_true rfl, Nat.le_of_ble_eq_true rfl, Nat.le_of_ble_eq_true rfl, Nat.le_of_ble_eq_true rfl⟩ (Nat.le_of_ble_eq_true rfl) rfl 10 [0, 1, 2, 3, 4, 5, 6, 7, 8, 9] [(h0, .inr (10, [.ref q0, .ref q2, .null, .null, .null, .null, .null, .null, .null, .null, .null, .null, .int 0])), (q0, .inr (6, [.ref (u1 0), .ref (u1 1), .ref (u1 2), .ref (u1 3), .ref (u1 4), .int (1 : Int32), .int (0 : Int32), .int (0 : Int32)])), ((u1 0), .inl (cI, 20, .inl (fun _ => 0))), ((u1 1), .inl (cI, 20, .inl (fun _ => 0))), ((u1 2), .inl (cI, 20, .inl (fun _ => 0))), ((u1 3), .inl (cI, 9, .inl (fun _ => 0))), ((u1 4), .inl (cI, 9, .inl (fun _ => 0))), (q2, .inr (3, [.ref q0, .ref (u3 1), .ref (u3 0)])), ((u3 0), .inl (cI, 9, .inl (fun _ => 0))), ((u3 1), .inl (cI, 20, .inl (fun _ => -1)))] rfl rfl (by decide) (by decide) (fun u5 => ?_)
  refine ck_eq (ws' := [(h0, .inr (10, [.ref q0, .ref q2, .null, .null, .null, .null, .null, .null, .null, .null, .null, .null, .int 0])), (q0, .inr (6, [.ref (u1 0), .ref (u1 1), .ref (u1 2), .ref (u1 3), .ref (u1 4), .int (1 : Int32), .int (0 : Int32), .int (0 : Int32)])), ((u1 0), .inl (cI, 20, .inl (fun _ => 0))), ((u1 1), .inl (cI, 20, .inl (fun _ => 0))), ((u1 2), .inl (cI, 20, .inl (fun _ => 0))), ((u1 3), .inl (cI, 9, .inl (fun _ => 0))), ((u1 4), .inl (cI, 9, .inl (fun _ => 0))), (q2, .inr (3, [.ref q0, .ref (u3 1), .ref (u3 0)])), ((u3 0), .inl (cI, 9, .inl (fun _ => 0))), ((u3 1), .inl (cI, 20, .inl (fun _ => -1))), (q4, .inr (4, [.ref q0, .ref q2, .ref (u5 0), .int (0 : Int32)])), ((u5 0), .inl (cI, 9, .inl (fun _ => 0)))]) rfl ?_
  refine ck_widen (k := 11) (n := 131) (by omega) (by omega) ?_
  refine ck_putF (ws' := [(h0, .inr (10, [.ref q0, .ref q2, .ref q4, .null, .null, .null, .null, .null, .null, .null, .null, .null, .int 0])), (q0, .inr (6, [.ref (u1 0), .ref (u1 1), .ref (u1 2), .ref (u1 3), .ref (u1 4), .int (1 : Int32), .int (0 : Int32), .int (0 : Int32)])), ((u1 0), .inl (cI, 20, .inl (fun _ => 0))), ((u1 1), .inl (cI, 20, .inl (fun _ => 0))), ((u1 2), .inl (cI, 20, .inl (fun _ => 0))), ((u1 3), .inl (cI, 9, .inl (fun _ => 0))), ((u1 4), .inl (cI, 9, .inl (fun _ => 0))), (q2, .inr (3, [.ref q0, .ref (u3 1), .ref (u3 0)])), ((u3 0), .inl (cI, 9, .inl (fun _ => 0))), ((u3 1), .inl (cI, 20, .inl (fun _ => -1))), (q4, .inr (4, [.ref q0, .ref q2, .ref (u5 0), .int (0 : Int32)])), ((u5 0), .inl (cI, 9, .inl (fun _ => 0)))]) e_X10_init_46 fl_X10_30 ff_X10_2 lk_X10_30 rfl rfl 0 rfl (Nat.le_of_ble_eq_true rfl) rfl ?_
  refine ck_aload_n 0 rfl e_X10_init_49 ?_
  refine ck_new (ci := 5) (fs := [.null, .null, .null, .null, .int 0]) (C' := RX5) (T := TX5) (N := 5) e_X10_init_50 rfl ws_X5 tyX5_ok cl_X10_34 in_X5 ini_X5 dv_X5 (Nat.le_of_ble_eq_true rfl) (Nat.le_of_ble_eq_true rfl) (fun q6 => ?_)
  refine ck_eq (ws' := [(h0, .inr (10, [.ref q0, .ref q2, .ref q4, .null, .null, .null, .null, .null, .null, .null, .null, .null, .int 0])), (q0, .inr (6, [.ref (u1 0), .ref (u1 1), .ref (u1 2), .ref (u1 3), .ref (u1 4), .int (1 : Int32), .int (0 : Int32), .int (0 : Int32)])), ((u1 0), .inl (cI, 20, .inl (fun _ => 0))), ((u1 1), .inl (cI, 20, .inl (fun _ => 0))), ((u1 2), .inl (cI, 20, .inl (fun _ => 0))), ((u1 3), .inl (cI, 9, .inl (fun _ => 0))), ((u1 4), .inl (cI, 9, .inl (fun _ => 0))), (q2, .inr (3, [.ref q0, .ref (u3 1), .ref (u3 0)])), ((u3 0), .inl (cI, 9, .inl (fun _ => 0))), ((u3 1), .inl (cI, 20, .inl (fun _ => -1))), (q4, .inr (4, [.ref q0, .ref q2, .ref (u5 0), .int (0 : Int32)])), ((u5 0), .inl (cI, 9, .inl (fun _ => 0))), (q6, .inr (5, [.null, .null, .null, .null, .int 0]))]) rfl ?_
  refine ck_widen (k := 12) (n := 136) (by omega) (by omega) ?_
  refine ck_dup rfl e_X10_init_53 ?_
  refine ck_aload_n 0 rfl e_X10_init_54 ?_
  refine ck_get (v := .ref q0) e_X10_init_55 fl_X10_10 0 rfl rfl ?_
  refine ck_aload_n 0 rfl e_X10_init_58 ?_
  refine ck_get (v := .ref q2) e_X10_init_59 fl_X10_21 0 rfl rfl ?_
  refine ck_aload_n 0 rfl e_X10_init_62 ?_
  refine ck_get (v := .ref q4) e_X10_init_63 fl_X10_30 0 rfl rfl ?_
  refine ck_init (av := [.ref q0, .ref q2, .ref q4]) (rest := [.ref q6, .ref h0]) e_X10_init_66 (ct_X5 l D cI cL q6 q0 q2 q4) il_X10_36 rfl ⟨rfl, rfl, Nat.le_of_ble_eq_true rfl, Nat.le_of_ble_eq_true rfl, Nat.le_of_ble_eq_true rfl, Nat.le_of_ble_eq_true rfl⟩ (Nat.le_of_ble_eq_true rfl) rfl 12 [0, 1, 2, 3, 4, 5, 6, 7, 8, 9, 10, 11] [(h0, .inr (10, [.ref q0, .ref q2, .ref q4, .null, .null, .null, .null, .null, .null, .null, .null, .null, .int 0])), (q0, .inr (6, [.ref (u1 0), .ref (u1 1), .ref (u1 2), .ref (u1 3), .ref (u1 4), .int (1 : Int32), .int (0 : Int32), .int (0 : Int32)])), ((u1 0), .inl (cI, 20, .inl (fun _ => 0))), ((u1 1), .inl (cI, 20, .inl (fun _ => 0))), ((u1 2), .inl (cI, 20, .inl (fun _ => 0))), ((u1 3), .inl (cI, 9, .inl (fun _ => 0))), ((u1 4), .inl (cI, 9, .inl (fun _ => 0))), (q2, .inr (3, [.ref q0, .ref (u3 1), .ref (u3 0)])), ((u3 0), .inl (cI, 9, .inl (fun _ => 0))), ((u3 1), .inl (cI, 20, .inl (fun _ => -1))), (q4, .inr (4, [.ref q0, .ref q2, .ref (u5 0), .int (0 : Int32)])), ((u5 0), .inl (cI, 9, .inl (fun _ => 0)))] rfl rfl (by decide) (by decide) (fun u7 => ?_)
  refine ck_eq (ws' := [(h0, .inr (10, [.ref q0, .ref q2, .ref q4, .null, .null, .null, .null, .null, .null, .null, .null, .null, .int 0])), (q0, .inr (6, [.ref (u1 0), .ref (u1 1), .ref (u1 2), .ref (u1 3), .ref (u1 4), .int (1 : Int32), .int (0 : Int32), .int (0 : Int32)])), ((u1 0), .inl (cI, 20, .inl (fun _ => 0))), ((u1 1), .inl (cI, 20, .inl (fun _ => 0))), ((u1 2), .inl (cI, 20, .inl (fun _ => 0))), ((u1 3), .inl (cI, 9, .inl (fun _ => 0))), ((u1 4), .inl (cI, 9, .inl (fun _ => 0))), (q2, .inr (3, [.ref q0, .ref (u3 1), .ref (u3 0)])), ((u3 0), .inl (cI, 9, .inl (fun _ => 0))), ((u3 1), .inl (cI, 20, .inl (fun _ => -1))), (q4, .inr (4, [.ref q0, .ref q2, .ref (u5 0), .int (0 : Int32)])), ((u5 0), .inl (cI, 9, .inl (fun _ => 0))), (q6, .inr (5, [.ref q0, .ref q2, .ref q4, .ref (u7 0), .int (0 : Int32)])), ((u7 0), .inl (cI, 5, .inl (fun _ => 0)))]) rfl ?_
  refine ck_widen (k := 13) (n := 141) (by omega) (by omega) ?_
  refine ck_putF (ws' := [(h0, .inr (10, [.ref q0, .ref q2, .ref q4, .ref q6, .null, .null, .null, .null, .null, .null, .null, .null, .int 0])), (q0, .inr (6, [.ref (u1 0), .ref (u1 1), .ref (u1 2), .ref (u1 3), .ref (u1 4), .int (1 : Int32), .int (0 : Int32), .int (0 : Int32)])), ((u1 0), .inl (cI, 20, .inl (fun _ => 0))), ((u1 1), .inl (cI, 20, .inl (fun _ => 0))), ((u1 2), .inl (cI, 20, .inl (fun _ => 0))), ((u1 3), .inl (cI, 9, .inl (fun _ => 0))), ((u1 4), .inl (cI, 9, .inl (fun _ => 0))), (q2, .inr (3, [.ref q0, .ref (u3 1), .ref (u3 0)])), ((u3 0), .inl (cI, 9, .inl (fun _ => 0))), ((u3 1), .inl (cI, 20, .inl (fun _ => -1))), (q4, .inr (4, [.ref q0, .ref q2, .ref (u5 0), .int (0 : Int32)])), ((u5 0), .inl (cI, 9, .inl (fun _ => 0))), (q6, .inr (5, [.ref q0, .ref q2, .ref q4, .ref (u7 0), .int (0 : Int32)])), ((u7 0), .inl (cI, 5, .inl (fun _ => 0)))]) e_X10_init_69 fl_X10_39 ff_X10_3 lk_X10_39 rfl rfl 0 rfl (Nat.le_of_ble_eq_true rfl) rfl ?_
  refine ck_aload_n 0 rfl e_X10_init_72 ?_
  refine ck_new (ci := 2) (fs := [.null, .null]) (C' := RX2) (T := TX2) (N := 2) e_X10_init_73 rfl ws_X2 tyX2_ok cl_X10_43 in_X2 ini_X2 dv_X2 (Nat.le_of_ble_eq_true rfl) (Nat.le_of_ble_eq_true rfl) (fun q8 => ?_)
  refine ck_eq (ws' := [(h0, .inr (10, [.ref q0, .ref q2, .ref q4, .ref q6, .null, .null, .null, .null, .null, .null, .null, .null, .int 0])), (q0, .inr (6, [.ref (u1 0), .ref (u1 1), .ref (u1 2), .ref (u1 3), .ref (u1 4), .int (1 : Int32), .int (0 : Int32), .int (0 : Int32)])), ((u1 0), .inl (cI, 20, .inl (fun _ => 0))), ((u1 1), .inl (cI, 20, .inl (fun _ => 0))), ((u1 2), .inl (cI, 20, .inl (fun _ => 0))), ((u1 3), .inl (cI, 9, .inl (fun _ => 0))), ((u1 4), .inl (cI, 9, .inl (fun _ => 0))), (q2, .inr (3, [.ref q0, .ref (u3 1), .ref (u3 0)])), ((u3 0), .inl (cI, 9, .inl (fun _ => 0))), ((u3 1), .inl (cI, 20, .inl (fun _ => -1))), (q4, .inr (4, [.ref q0, .ref q2, .ref (u5 0), .int (0 : Int32)])), ((u5 0), .inl (cI, 9, .inl (fun _ => 0))), (q6, .inr (5, [.ref q0, .ref q2, .ref q4, .ref (u7 0), .int (0 : Int32)])), ((u7 0), .inl (cI, 5, .inl (fun _ => 0))), (q8, .inr (2, [.null, .null]))]) rfl ?_
  refine ck_widen (k := 14) (n := 143) (by omega) (by omega) ?_
  refine ck_dup rfl e_X10_init_76 ?_
  refine ck_aload_n 0 rfl e_X10_init_77 ?_
  refine ck_get (v := .ref q0) e_X10_init_78 fl_X10_10 0 rfl rfl ?_
  refine ck_aload_n 0 rfl e_X10_init_81 ?_
  refine ck_get (v := .ref q2) e_X10_init_82 fl_X10_21 0 rfl rfl ?_
  refine ck_init (av := [.ref q0, .ref q2]) (rest := [.ref q8, .ref h0]) e_X10_init_85 (ct_X2 l D cI cL q8 q0 q2) il_X10_45 rfl ⟨rfl, rfl, Nat.le_of_ble_eq_true rfl, Nat.le_of_ble_eq_true rfl, Nat.le_of_ble_eq_true rfl, Nat.le_of_ble_eq_true rfl⟩ (Nat.le_of_ble_eq_true rfl) rfl 14 [0, 1, 2, 3, 4, 5, 6, 7, 8, 9, 10, 11, 12, 13] [(h0, .inr (10, [.ref q0, .ref q2, .ref q4, .ref q6, .null, .null, .null, .null, .null, .null, .null, .null, .int 0])), (q0, .inr (6, [.ref (u1 0), .ref (u1 1), .ref (u1 2), .ref (u1 3), .ref (u1 4), .int (1 : Int32), .int (0 : Int32), .int (0 : Int32)])), ((u1 0), .inl (cI, 20, .inl (fun _ => 0))), ((u1 1), .inl (cI, 20, .inl (fun _ => 0))), ((u1 2), .inl (cI, 20, .inl (fun _ => 0))), ((u1 3), .inl (cI, 9, .inl (fun _ => 0))), ((u1 4), .inl (cI, 9, .inl (fun _ => 0))), (q2, .inr (3, [.ref q0, .ref (u3 1), .ref (u3 0)])), ((u3 0), .inl (cI, 9, .inl (fun _ => 0))), ((u3 1), .inl (cI, 20, .inl (fun _ => -1))), (q4, .inr (4, [.ref q0, .ref q2, .ref (u5 0), .int (0 : Int32)])), ((u5 0), .inl (cI, 9, .inl (fun _ => 0))), (q6, .inr (5, [.ref q0, .ref q2, .ref q4, .ref (u7 0), .int (0 : Int32)])), ((u7 0), .inl (cI, 5, .inl (fun _ => 0)))] rfl rfl (by decide) (by decide) (fun u9 => ?_)
  refine ck_eq (ws' := [(h0, .inr (10, [.ref q0, .ref q2, .ref q4, .ref q6, .null, .null, .null, .null, .null, .null, .null, .null, .int 0])), (q0, .inr (6, [.ref (u1 0), .ref (u1 1), .ref (u1 2), .ref (u1 3), .ref (u1 4), .int (1 : Int32), .int (0 : Int32), .int (0 : Int32)])), ((u1 0), .inl (cI, 20, .inl (fun _ => 0))), ((u1 1), .inl (cI, 20, .inl (fun _ => 0))), ((u1 2), .inl (cI, 20, .inl (fun _ => 0))), ((u1 3), .inl (cI, 9, .inl (fun _ => 0))), ((u1 4), .inl (cI, 9, .inl (fun _ => 0))), (q2, .inr (3, [.ref q0, .ref (u3 1), .ref (u3 0)])), ((u3 0), .inl (cI, 9, .inl (fun _ => 0))), ((u3 1), .inl (cI, 20, .inl (fun _ => -1))), (q4, .inr (4, [.ref q0, .ref q2, .ref (u5 0), .int (0 : Int32)])), ((u5 0), .inl (cI, 9, .inl (fun _ => 0))), (q6, .inr (5, [.ref q0, .ref q2, .ref q4, .ref (u7 0), .int (0 : Int32)])), ((u7 0), .inl (cI, 5, .inl (fun _ => 0))), (q8, .inr (2, [.ref q0, .ref q2]))]) rfl ?_
  refine ck_widen (k := 14) (n := 143) (by omega) (by omega) ?_
  refine ck_putF (ws' := [(h0, .inr (10, [.ref q0, .ref q2, .ref q4, .ref q6, .ref q8, .null, .null, .null, .null, .null, .null, .null, .int 0])), (q0, .inr (6, [.ref (u1 0), .ref (u1 1), .ref (u1 2), .ref (u1 3), .ref (u1 4), .int (1 : Int32), .int (0 : Int32), .int (0 : Int32)])), ((u1 0), .inl (cI, 20, .inl (fun _ => 0))), ((u1 1), .inl (cI, 20, .inl (fun _ => 0))), ((u1 2), .inl (cI, 20, .inl (fun _ => 0))), ((u1 3), .inl (cI, 9, .inl (fun _ => 0))), ((u1 4), .inl (cI, 9, .inl (fun _ => 0))), (q2, .inr (3, [.ref q0, .ref (u3 1), .ref (u3 0)])), ((u3 0), .inl (cI, 9, .inl (fun _ => 0))), ((u3 1), .inl (cI, 20, .inl (fun _ => -1))), (q4, .inr (4, [.ref q0, .ref q2, .ref (u5 0), .int (0 : Int32)])), ((u5 0), .inl (cI, 9, .inl (fun _ => 0))), (q6, .inr (5, [.ref q0, .ref q2, .ref q4, .ref (u7 0), .int (0 : Int32)])), ((u7 0), .inl (cI, 5, .inl (fun _ => 0))), (q8, .inr (2, [.ref q0, .ref q2]))]) e_X10_init_88 fl_X10_46 ff_X10_4 lk_X10_46 rfl rfl 0 rfl (Nat.le_of_ble_eq_true rfl) rfl ?_
  refine ck_aload_n 0 rfl e_X10_init_91 ?_
  refine ck_new (ci := 1) (fs := [.null, .null, .int 0, .int 0, .int 0]) (C' := RX1) (T := TX1) (N := 5) e_X10_init_92 rfl ws_X1 tyX1_ok cl_X10_50 in_X1 ini_X1 dv_X1 (Nat.le_of_ble_eq_true rfl) (Nat.le_of_ble_eq_true rfl) (fun q10 => ?_)
  refine ck_eq (ws' := [(h0, .inr (10, [.ref q0, .ref q2, .ref q4, .ref q6, .ref q8, .null, .null, .null, .null, .null, .null, .null, .int 0])), (q0, .inr (6, [.ref (u1 0), .ref (u1 1), .ref (u1 2), .ref (u1 3), .ref (u1 4), .int (1 : Int32), .int (0 : Int32), .int (0 : Int32)])), ((u1 0), .inl (cI, 20, .inl (fun _ => 0))), ((u1 1), .inl (cI, 20, .inl (fun _ => 0))), ((u1 2), .inl (cI, 20, .inl (fun _ => 0))), ((u1 3), .inl (cI, 9, .inl (fun _ => 0))), ((u1 4), .inl (cI, 9, .inl (fun _ => 0))), (q2, .inr (3, [.ref q0, .ref (u3 1), .ref (u3 0)])), ((u3 0), .inl (cI, 9, .inl (fun _ => 0))), ((u3 1), .inl (cI, 20, .inl (fun _ => -1))), (q4, .inr (4, [.ref q0, .ref q2, .ref (u5 0), .int (0 : Int32)])), ((u5 0), .inl (cI, 9, .inl (fun _ => 0))), (q6, .inr (5, [.ref q0, .ref q2, .ref q4, .ref (u7 0), .int (0 : Int32)])), ((u7 0), .inl (cI, 5, .inl (fun _ => 0))), (q8, .inr (2, [.ref q0, .ref q2])), (q10, .inr (1, [.null, .null, .int 0, .int 0, .int 0]))]) rfl ?_
  refine ck_widen (k := 15) (n := 148) (by omega) (by omega) ?_
  refine ck_dup rfl e_X10_init_95 ?_
  refine ck_aload_n 0 rfl e_X10_init_96 ?_
  refine ck_get (v := .ref q0) e_X10_init_97 fl_X10_10 0 rfl rfl ?_
  refine ck_aload_n 0 rfl e_X10_init_100 ?_
  refine ck_get (v := .ref q2) e_X10_init_101 fl_X10_21 0 rfl rfl ?_
  refine ck_init (av := [.ref q0, .ref q2]) (rest := [.ref q10, .ref h0]) e_X10_init_104 (ct_X1 l D cI cL q10 q0 q2) il_X10_52 rfl ⟨rfl, rfl, Nat.le_of_ble_eq_true rfl, Nat.le_of_ble_eq_true rfl, Nat.le_of_ble_eq_true rfl, Nat.le_of_ble_eq_true rfl⟩ (Nat.le_of_ble_eq_true rfl) rfl 15 [0, 1, 2, 3, 4, 5, 6, 7, 8, 9, 10, 11, 12, 13, 14] [(h0, .inr (10, [.ref q0, .ref q2, .ref q4, .ref q6, .ref q8, .null, .null, .null, .null, .null, .null, .null, .int 0])), (q0, .inr (6, [.ref (u1 0), .ref (u1 1), .ref (u1 2), .ref (u1 3), .ref (u1 4), .int (1 : Int32), .int (0 : Int32), .int (0 : Int32)])), ((u1 0), .inl (cI, 20, .inl (fun _ => 0))), ((u1 1), .inl (cI, 20, .inl (fun _ => 0))), ((u1 2), .inl (cI, 20, .inl (fun _ => 0))), ((u1 3), .inl (cI, 9, .inl (fun _ => 0))), ((u1 4), .inl (cI, 9, .inl (fun _ => 0))), (q2, .inr (3, [.ref q0, .ref (u3 1), .ref (u3 0)])), ((u3 0), .inl (cI, 9, .inl (fun _ => 0))), ((u3 1), .inl (cI, 20, .inl (fun _ => -1))), (q4, .inr (4, [.ref q0, .ref q2, .ref (u5 0), .int (0 : Int32)])), ((u5 0), .inl (cI, 9, .inl (fun _ => 0))), (q6, .inr (5, [.ref q0, .ref q2, .ref q4, .ref (u7 0), .int (0 : Int32)])), ((u7 0), .inl (cI, 5, .inl (fun _ => 0))), (q8, .inr (2, [.ref q0, .ref q2]))] rfl rfl (by decide) (by decide) (fun u11 => ?_)
  refine ck_eq (ws' := [(h0, .inr (10, [.ref q0, .ref q2, .ref q4, .ref q6, .ref q8, .null, .null, .null, .null, .null, .null, .null, .int 0])), (q0, .inr (6, [.ref (u1 0), .ref (u1 1), .ref (u1 2), .ref (u1 3), .ref (u1 4), .int (1 : Int32), .int (0 : Int32), .int (0 : Int32)])), ((u1 0), .inl (cI, 20, .inl (fun _ => 0))), ((u1 1), .inl (cI, 20, .inl (fun _ => 0))), ((u1 2), .inl (cI, 20, .inl (fun _ => 0))), ((u1 3), .inl (cI, 9, .inl (fun _ => 0))), ((u1 4), .inl (cI, 9, .inl (fun _ => 0))), (q2, .inr (3, [.ref q0, .ref (u3 1), .ref (u3 0)])), ((u3 0), .inl (cI, 9, .inl (fun _ => 0))), ((u3 1), .inl (cI, 20, .inl (fun _ => -1))), (q4, .inr (4, [.ref q0, .ref q2, .ref (u5 0), .int (0 : Int32)])), ((u5 0), .inl (cI, 9, .inl (fun _ => 0))), (q6, .inr (5, [.ref q0, .ref q2, .ref q4, .ref (u7 0), .int (0 : Int32)])), ((u7 0), .inl (cI, 5, .inl (fun _ => 0))), (q8, .inr (2, [.ref q0, .ref q2])), (q10, .inr (1, [.ref q0, .ref q2, .int (0 : Int32), .int (0 : Int32), .int (0 : Int32)]))]) rfl ?_
  refine ck_widen (k := 15) (n := 148) (by omega) (by omega) ?_
  refine ck_putF (ws' := [(h0, .inr (10, [.ref q0, .ref q2, .ref q4, .ref q6, .ref q8, .ref q10, .null, .null, .null, .null, .null, .null, .int 0])), (q0, .inr (6, [.ref (u1 0), .ref (u1 1), .ref (u1 2), .ref (u1 3), .ref (u1 4), .int (1 : Int32), .int (0 : Int32), .int (0 : Int32)])), ((u1 0), .inl (cI, 20, .inl (fun _ => 0))), ((u1 1), .inl (cI, 20, .inl (fun _ => 0))), ((u1 2), .inl (cI, 20, .inl (fun _ => 0))), ((u1 3), .inl (cI, 9, .inl (fun _ => 0))), ((u1 4), .inl (cI, 9, .inl (fun _ => 0))), (q2, .inr (3, [.ref q0, .ref (u3 1), .ref (u3 0)])), ((u3 0), .inl (cI, 9, .inl (fun _ => 0))), ((u3 1), .inl (cI, 20, .inl (fun _ => -1))), (q4, .inr (4, [.ref q0, .ref q2, .ref (u5 0), .int (0 : Int32)])), ((u5 0), .inl (cI, 9, .inl (fun _ => 0))), (q6, .inr (5, [.ref q0, .ref q2, .ref q4, .ref (u7 0), .int (0 : Int32)])), ((u7 0), .inl (cI, 5, .inl (fun _ => 0))), (q8, .inr (2, [.ref q0, .ref q2])), (q10, .inr (1, [.ref q0, .ref q2, .int (0 : Int32), .int (0 : Int32), .int (0 : Int32)]))]) e_X10_init_107 fl_X10_53 ff_X10_5 lk_X10_53 rfl rfl 0 rfl (Nat.le_of_ble_eq_true rfl) rfl ?_
  refine ck_aload_n 0 rfl e_X10_init_110 ?_
  refine ck_new (ci := 7) (fs := [.null, .null, .null, .null, .int 0, .int 0, .int 0, .int 0]) (C' := RX7) (T := TX7) (N := 8) e_X10_init_111 rfl ws_X7 tyX7_ok cl_X10_57 in_X7 ini_X7 dv_X7 (Nat.le_of_ble_eq_true rfl) (Nat.le_of_ble_eq_true rfl) (fun q12 => ?_)
  refine ck_eq (ws' := [(h0, .inr (10, [.ref q0, .ref q2, .ref q4, .ref q6, .ref q8, .ref q10, .null, .null, .null, .null, .null, .null, .int 0])), (q0, .inr (6, [.ref (u1 0), .ref (u1 1), .ref (u1 2), .ref (u1 3), .ref (u1 4), .int (1 : Int32), .int (0 : Int32), .int (0 : Int32)])), ((u1 0), .inl (cI, 20, .inl (fun _ => 0))), ((u1 1), .inl (cI, 20, .inl (fun _ => 0))), ((u1 2), .inl (cI, 20, .inl (fun _ => 0))), ((u1 3), .inl (cI, 9, .inl (fun _ => 0))), ((u1 4), .inl (cI, 9, .inl (fun _ => 0))), (q2, .inr (3, [.ref q0, .ref (u3 1), .ref (u3 0)])), ((u3 0), .inl (cI, 9, .inl (fun _ => 0))), ((u3 1), .inl (cI, 20, .inl (fun _ => -1))), (q4, .inr (4, [.ref q0, .ref q2, .ref (u5 0), .int (0 : Int32)])), ((u5 0), .inl (cI, 9, .inl (fun _ => 0))), (q6, .inr (5, [.ref q0, .ref q2, .ref q4, .ref (u7 0), .int (0 : Int32)])), ((u7 0), .inl (cI, 5, .inl (fun _ => 0))), (q8, .inr (2, [.ref q0, .ref q2])), (q10, .inr (1, [.ref q0, .ref q2, .int (0 : Int32), .int (0 : Int32), .int (0 : Int32)])), (q12, .inr (7, [.null, .null, .null, .null, .int 0, .int 0, .int 0, .int 0]))]) rfl ?_
  refine ck_widen (k := 16) (n := 156) (by omega) (by omega) ?_
  refine ck_dup rfl e_X10_init_114 ?_
  refine ck_aload_n 0 rfl e_X10_init_115 ?_
  refine ck_get (v := .ref q0) e_X10_init_116 fl_X10_10 0 rfl rfl ?_
  refine ck_init (av := [.ref q0]) (rest := [.ref q12, .ref h0]) e_X10_init_119 (ct_X7 l D cI cL q12 q0) il_X10_59 rfl ⟨rfl, rfl, Nat.le_of_ble_eq_true rfl, Nat.le_of_ble_eq_true rfl, Nat.le_of_ble_eq_true rfl, Nat.le_of_ble_eq_true rfl⟩ (Nat.le_of_ble_eq_true rfl) rfl 16 [0, 1, 2, 3, 4, 5, 6, 7, 8, 9, 10, 11, 12, 13, 14, 15] [(h0, .inr (10, [.ref q0, .ref q2, .ref q4, .ref q6, .ref q8, .ref q10, .null, .null, .null, .null, .null, .null, .int 0])), (q0, .inr (6, [.ref (u1 0), .ref (u1 1), .ref (u1 2), .ref (u1 3), .ref (u1 4), .int (1 : Int32), .int (0 : Int32), .int (0 : Int32)])), ((u1 0), .inl (cI, 20, .inl (fun _ => 0))), ((u1 1), .inl (cI, 20, .inl (fun _ => 0))), ((u1 2), .inl (cI, 20, .inl (fun _ => 0))), ((u1 3), .inl (cI, 9, .inl (fun _ => 0))), ((u1 4), .inl (cI, 9, .inl (fun _ => 0))), (q2, .inr (3, [.ref q0, .ref (u3 1), .ref (u3 0)])), ((u3 0), .inl (cI, 9, .inl (fun _ => 0))), ((u3 1), .inl (cI, 20, .inl (fun _ => -1))), (q4, .inr (4, [.ref q0, .ref q2, .ref (u5 0), .int (0 : Int32)])), ((u5 0), .inl (cI, 9, .inl (fun _ => 0))), (q6, .inr (5, [.ref q0, .ref q2, .ref q4, .ref (u7 0), .int (0 : Int32)])), ((u7 0), .inl (cI, 5, .inl (fun _ => 0))), (q8, .inr (2, [.ref q0, .ref q2])), (q10, .inr (1, [.ref q0, .ref q2, .int (0 : Int32), .int (0 : Int32), .int (0 : Int32)]))] rfl rfl (by decide) (by decide) (fun u13 => ?_)
  refine ck_eq (ws' := [(h0, .inr (10, [.ref q0, .ref q2, .ref q4, .ref q6, .ref q8, .ref q10, .null, .null, .null, .null, .null, .null, .int 0])), (q0, .inr (6, [.ref (u1 0), .ref (u1 1), .ref (u1 2), .ref (u1 3), .ref (u1 4), .int (1 : Int32), .int (0 : Int32), .int (0 : Int32)])), ((u1 0), .inl (cI, 20, .inl (fun _ => 0))), ((u1 1), .inl (cI, 20, .inl (fun _ => 0))), ((u1 2), .inl (cI, 20, .inl (fun _ => 0))), ((u1 3), .inl (cI, 9, .inl (fun _ => 0))), ((u1 4), .inl (cI, 9, .inl (fun _ => 0))), (q2, .inr (3, [.ref q0, .ref (u3 1), .ref (u3 0)])), ((u3 0), .inl (cI, 9, .inl (fun _ => 0))), ((u3 1), .inl (cI, 20, .inl (fun _ => -1))), (q4, .inr (4, [.ref q0, .ref q2, .ref (u5 0), .int (0 : Int32)])), ((u5 0), .inl (cI, 9, .inl (fun _ => 0))), (q6, .inr (5, [.ref q0, .ref q2, .ref q4, .ref (u7 0), .int (0 : Int32)])), ((u7 0), .inl (cI, 5, .inl (fun _ => 0))), (q8, .inr (2, [.ref q0, .ref q2])), (q10, .inr (1, [.ref q0, .ref q2, .int (0 : Int32), .int (0 : Int32), .int (0 : Int32)])), (q12, .inr (7, [.ref q0, .ref (u13 0), .ref (u13 1), .ref (u13 2), .int (-1 : Int32), .int (0 : Int32), .int (-1 : Int32), .int (-1 : Int32)])), ((u13 0), .inl (cI, 9, .inl (fun _ => 0))), ((u13 1), .inl (cI, 20, .inl (fun _ => 0))), ((u13 2), .inl (cI, 20, .inl (fun _ => 0)))]) rfl ?_
  refine ck_widen (k := 19) (n := 205) (by omega) (by omega) ?_
  refine ck_putF (ws' := [(h0, .inr (10, [.ref q0, .ref q2, .ref q4, .ref q6, .ref q8, .ref q10, .ref q12, .null, .null, .null, .null, .null, .int 0])), (q0, .inr (6, [.ref (u1 0), .ref (u1 1), .ref (u1 2), .ref (u1 3), .ref (u1 4), .int (1 : Int32), .int (0 : Int32), .int (0 : Int32)])), ((u1 0), .inl (cI, 20, .inl (fun _ => 0))), ((u1 1), .inl (cI, 20, .inl (fun _ => 0))), ((u1 2), .inl (cI, 20, .inl (fun _ => 0))), ((u1 3), .inl (cI, 9, .inl (fun _ => 0))), ((u1 4), .inl (cI, 9, .inl (fun _ => 0))), (q2, .inr (3, [.ref q0, .ref (u3 1), .ref (u3 0)])), ((u3 0), .inl (cI, 9, .inl (fun _ => 0))), ((u3 1), .inl (cI, 20, .inl (fun _ => -1))), (q4, .inr (4, [.ref q0, .ref q2, .ref (u5 0), .int (0 : Int32)])), ((u5 0), .inl (cI, 9, .inl (fun _ => 0))), (q6, .inr (5, [.ref q0, .ref q2, .ref q4, .ref (u7 0), .int (0 : Int32)])), ((u7 0), .inl (cI, 5, .inl (fun _ => 0))), (q8, .inr (2, [.ref q0, .ref q2])), (q10, .inr (1, [.ref q0, .ref q2, .int (0 : Int32), .int (0 : Int32), .int (0 : Int32)])), (q12, .inr (7, [.ref q0, .ref (u13 0), .ref (u13 1), .ref (u13 2), .int (-1 : Int32), .int (0 : Int32), .int (-1 : Int32), .int (-1 : Int32)])), ((u13 0), .inl (cI, 9, .inl (fun _ => 0))), ((u13 1), .inl (cI, 20, .inl (fun _ => 0))), ((u13 2), .inl (cI, 20, .inl (fun _ => 0)))]) e_X10_init_122 fl_X10_60 ff_X10_6 lk_X10_60 rfl rfl 0 rfl (Nat.le_of_ble_eq_true rfl) rfl ?_
  refine ck_aload_n 0 rfl e_X10_init_125 ?_
  refine ck_new (ci := 0) (fs := [.null, .null, .null]) (C' := RX0) (T := TX0) (N := 3) e_X10_init_126 rfl ws_X0 tyX0_ok cl_X10_64 in_X0 ini_X0 dv_X0 (Nat.le_of_ble_eq_true rfl) (Nat.le_of_ble_eq_true rfl) (fun q14 => ?_)
  refine ck_eq (ws' := [(h0, .inr (10, [.ref q0, .ref q2, .ref q4, .ref q6, .ref q8, .ref q10, .ref q12, .null, .null, .null, .null, .null, .int 0])), (q0, .inr (6, [.ref (u1 0), .ref (u1 1), .ref (u1 2), .ref (u1 3), .ref (u1 4), .int (1 : Int32), .int (0 : Int32), .int (0 : Int32)])), ((u1 0), .inl (cI, 20, .inl (fun _ => 0))), ((u1 1), .inl (cI, 20, .inl (fun _ => 0))), ((u1 2), .inl (cI, 20, .inl (fun _ => 0))), ((u1 3), .inl (cI, 9, .inl (fun _ => 0))), ((u1 4), .inl (cI, 9, .inl (fun _ => 0))), (q2, .inr (3, [.ref q0, .ref (u3 1), .ref (u3 0)])), ((u3 0), .inl (cI, 9, .inl (fun _ => 0))), ((u3 1), .inl (cI, 20, .inl (fun _ => -1))), (q4, .inr (4, [.ref q0, .ref q2, .ref (u5 0), .int (0 : Int32)])), ((u5 0), .inl (cI, 9, .inl (fun _ => 0))), (q6, .inr (5, [.ref q0, .ref q2, .ref q4, .ref (u7 0), .int (0 : Int32)])), ((u7 0), .inl (cI, 5, .inl (fun _ => 0))), (q8, .inr (2, [.ref q0, .ref q2])), (q10, .inr (1, [.ref q0, .ref q2, .int (0 : Int32), .int (0 : Int32), .int (0 : Int32)])), (q12, .inr (7, [.ref q0, .ref (u13 0), .ref (u13 1), .ref (u13 2), .int (-1 : Int32), .int (0 : Int32), .int (-1 : Int32), .int (-1 : Int32)])), ((u13 0), .inl (cI, 9, .inl (fun _ => 0))), ((u13 1), .inl (cI, 20, .inl (fun _ => 0))), ((u13 2), .inl (cI, 20, .inl (fun _ => 0))), (q14, .inr (0, [.null, .null, .null]))]) rfl ?_
  refine ck_widen (k := 20) (n := 208) (by omega) (by omega) ?_
  refine ck_dup rfl e_X10_init_129 ?_
  refine ck_aload_n 0 rfl e_X10_init_130 ?_
  refine ck_get (v := .ref q0) e_X10_init_131 fl_X10_10 0 rfl rfl ?_
  refine ck_init (av := [.ref q0]) (rest := [.ref q14, .ref h0]) e_X10_init_134 (ct_X0 l D cI cL q14 q0) il_X10_66 rfl ⟨rfl, rfl, Nat.le_of_ble_eq_true rfl, Nat.le_of_ble_eq_true rfl, Nat.le_of_ble_eq_true rfl, Nat.le_of_ble_eq_true rfl⟩ (Nat.le_of_ble_eq_true rfl) rfl 20 [0, 1, 2, 3, 4, 5, 6, 7, 8, 9, 10, 11, 12, 13, 14, 15, 16, 17, 18, 19] [(h0, .inr (10, [.ref q0, .ref q2, .ref q4, .ref q6, .ref q8, .ref q10, .ref q12, .null, .null, .null, .null, .null, .int 0])), (q0, .inr (6, [.ref (u1 0), .ref (u1 1), .ref (u1 2), .ref (u1 3), .ref (u1 4), .int (1 : Int32), .int (0 : Int32), .int (0 : Int32)])), ((u1 0), .inl (cI, 20, .inl (fun _ => 0))), ((u1 1), .inl (cI, 20, .inl (fun _ => 0))), ((u1 2), .inl (cI, 20, .inl (fun _ => 0))), ((u1 3), .inl (cI, 9, .inl (fun _ => 0))), ((u1 4), .inl (cI, 9, .inl (fun _ => 0))), (q2, .inr (3, [.ref q0, .ref (u3 1), .ref (u3 0)])), ((u3 0), .inl (cI, 9, .inl (fun _ => 0))), ((u3 1), .inl (cI, 20, .inl (fun _ => -1))), (q4, .inr (4, [.ref q0, .ref q2, .ref (u5 0), .int (0 : Int32)])), ((u5 0), .inl (cI, 9, .inl (fun _ => 0))), (q6, .inr (5, [.ref q0, .ref q2, .ref q4, .ref (u7 0), .int (0 : Int32)])), ((u7 0), .inl (cI, 5, .inl (fun _ => 0))), (q8, .inr (2, [.ref q0, .ref q2])), (q10, .inr (1, [.ref q0, .ref q2, .int (0 : Int32), .int (0 : Int32), .int (0 : Int32)])), (q12, .inr (7, [.ref q0, .ref (u13 0), .ref (u13 1), .ref (u13 2), .int (-1 : Int32), .int (0 : Int32), .int (-1 : Int32), .int (-1 : Int32)])), ((u13 0), .inl (cI, 9, .inl (fun _ => 0))), ((u13 1), .inl (cI, 20, .inl (fun _ => 0))), ((u13 2), .inl (cI, 20, .inl (fun _ => 0)))] rfl rfl (by decide) (by decide) (fun u15 => ?_)
  refine ck_eq (ws' := [(h0, .inr (10, [.ref q0, .ref q2, .ref q4, .ref q6, .ref q8, .ref q10, .ref q12, .null, .null, .null, .null, .null, .int 0])), (q0, .inr (6, [.ref (u1 0), .ref (u1 1), .ref (u1 2), .ref (u1 3), .ref (u1 4), .int (1 : Int32), .int (0 : Int32), .int (0 : Int32)])), ((u1 0), .inl (cI, 20, .inl (fun _ => 0))), ((u1 1), .inl (cI, 20, .inl (fun _ => 0))), ((u1 2), .inl (cI, 20, .inl (fun _ => 0))), ((u1 3), .inl (cI, 9, .inl (fun _ => 0))), ((u1 4), .inl (cI, 9, .inl (fun _ => 0))), (q2, .inr (3, [.ref q0, .ref (u3 1), .ref (u3 0)])), ((u3 0), .inl (cI, 9, .inl (fun _ => 0))), ((u3 1), .inl (cI, 20, .inl (fun _ => -1))), (q4, .inr (4, [.ref q0, .ref q2, .ref (u5 0), .int (0 : Int32)])), ((u5 0), .inl (cI, 9, .inl (fun _ => 0))), (q6, .inr (5, [.ref q0, .ref q2, .ref q4, .ref (u7 0), .int (0 : Int32)])), ((u7 0), .inl (cI, 5, .inl (fun _ => 0))), (q8, .inr (2, [.ref q0, .ref q2])), (q10, .inr (1, [.ref q0, .ref q2, .int (0 : Int32), .int (0 : Int32), .int (0 : Int32)])), (q12, .inr (7, [.ref q0, .ref (u13 0), .ref (u13 1), .ref (u13 2), .int (-1 : Int32), .int (0 : Int32), .int (-1 : Int32), .int (-1 : Int32)])), ((u13 0), .inl (cI, 9, .inl (fun _ => 0))), ((u13 1), .inl (cI, 20, .inl (fun _ => 0))), ((u13 2), .inl (cI, 20, .inl (fun _ => 0))), (q14, .inr (0, [.ref q0, .ref (u15 0), .ref (u15 1)])), ((u15 0), .inl (cI, 5, .inl (fun _ => 0))), ((u15 1), .inl (cI, 5, .inl (fun _ => 0)))]) rfl ?_
  refine ck_widen (k := 22) (n := 218) (by omega) (by omega) ?_
  refine ck_putF (ws' := [(h0, .inr (10, [.ref q0, .ref q2, .ref q4, .ref q6, .ref q8, .ref q10, .ref q12, .ref q14, .null, .null, .null, .null, .int 0])), (q0, .inr (6, [.ref (u1 0), .ref (u1 1), .ref (u1 2), .ref (u1 3), .ref (u1 4), .int (1 : Int32), .int (0 : Int32), .int (0 : Int32)])), ((u1 0), .inl (cI, 20, .inl (fun _ => 0))), ((u1 1), .inl (cI, 20, .inl (fun _ => 0))), ((u1 2), .inl (cI, 20, .inl (fun _ => 0))), ((u1 3), .inl (cI, 9, .inl (fun _ => 0))), ((u1 4), .inl (cI, 9, .inl (fun _ => 0))), (q2, .inr (3, [.ref q0, .ref (u3 1), .ref (u3 0)])), ((u3 0), .inl (cI, 9, .inl (fun _ => 0))), ((u3 1), .inl (cI, 20, .inl (fun _ => -1))), (q4, .inr (4, [.ref q0, .ref q2, .ref (u5 0), .int (0 : Int32)])), ((u5 0), .inl (cI, 9, .inl (fun _ => 0))), (q6, .inr (5, [.ref q0, .ref q2, .ref q4, .ref (u7 0), .int (0 : Int32)])), ((u7 0), .inl (cI, 5, .inl (fun _ => 0))), (q8, .inr (2, [.ref q0, .ref q2])), (q10, .inr (1, [.ref q0, .ref q2, .int (0 : Int32), .int (0 : Int32), .int (0 : Int32)])), (q12, .inr (7, [.ref q0, .ref (u13 0), .ref (u13 1), .ref (u13 2), .int (-1 : Int32), .int (0 : Int32), .int (-1 : Int32), .int (-1 : Int32)])), ((u13 0), .inl (cI, 9, .inl (fun _ => 0))), ((u13 1), .inl (cI, 20, .inl (fun _ => 0))), ((u13 2), .inl (cI, 20, .inl (fun _ => 0))), (q14, .inr (0, [.ref q0, .ref (u15 0), .ref (u15 1)])), ((u15 0), .inl (cI, 5, .inl (fun _ => 0))), ((u15 1), .inl (cI, 5, .inl (fun _ => 0)))]) e_X10_init_137 fl_X10_67 ff_X10_7 lk_X10_67 rfl rfl 0 rfl (Nat.le_of_ble_eq_true rfl) rfl ?_
  refine ck_aload_n 0 rfl e_X10_init_140 ?_
  refine ck_new (ci := 8) (fs := [.null, .null, .null]) (C' := RX8) (T := TX8) (N := 3) e_X10_init_141 rfl ws_X8 tyX8_ok cl_X10_71 in_X8 ini_X8 dv_X8 (Nat.le_of_ble_eq_true rfl) (Nat.le_of_ble_eq_true rfl) (fun q16 => ?_)
  refine ck_eq (ws' := [(h0, .inr (10, [.ref q0, .ref q2, .ref q4, .ref q6, .ref q8, .ref q10, .ref q12, .ref q14, .null, .null, .null, .null, .int 0])), (q0, .inr (6, [.ref (u1 0), .ref (u1 1), .ref (u1 2), .ref (u1 3), .ref (u1 4), .int (1 : Int32), .int (0 : Int32), .int (0 : Int32)])), ((u1 0), .inl (cI, 20, .inl (fun _ => 0))), ((u1 1), .inl (cI, 20, .inl (fun _ => 0))), ((u1 2), .inl (cI, 20, .inl (fun _ => 0))), ((u1 3), .inl (cI, 9, .inl (fun _ => 0))), ((u1 4), .inl (cI, 9, .inl (fun _ => 0))), (q2, .inr (3, [.ref q0, .ref (u3 1), .ref (u3 0)])), ((u3 0), .inl (cI, 9, .inl (fun _ => 0))), ((u3 1), .inl (cI, 20, .inl (fun _ => -1))), (q4, .inr (4, [.ref q0, .ref q2, .ref (u5 0), .int (0 : Int32)])), ((u5 0), .inl (cI, 9, .inl (fun _ => 0))), (q6, .inr (5, [.ref q0, .ref q2, .ref q4, .ref (u7 0), .int (0 : Int32)])), ((u7 0), .inl (cI, 5, .inl (fun _ => 0))), (q8, .inr (2, [.ref q0, .ref q2])), (q10, .inr (1, [.ref q0, .ref q2, .int (0 : Int32), .int (0 : Int32), .int (0 : Int32)])), (q12, .inr (7, [.ref q0, .ref (u13 0), .ref (u13 1), .ref (u13 2), .int (-1 : Int32), .int (0 : Int32), .int (-1 : Int32), .int (-1 : Int32)])), ((u13 0), .inl (cI, 9, .inl (fun _ => 0))), ((u13 1), .inl (cI, 20, .inl (fun _ => 0))), ((u13 2), .inl (cI, 20, .inl (fun _ => 0))), (q14, .inr (0, [.ref q0, .ref (u15 0), .ref (u15 1)])), ((u15 0), .inl (cI, 5, .inl (fun _ => 0))), ((u15 1), .inl (cI, 5, .inl (fun _ => 0))), (q16, .inr (8, [.null, .null, .null]))]) rfl ?_
  refine ck_widen (k := 23) (n := 221) (by omega) (by omega) ?_
  refine ck_dup rfl e_X10_init_144 ?_
  refine ck_aload_n 0 rfl e_X10_init_145 ?_
  refine ck_get (v := .ref q0) e_X10_init_146 fl_X10_10 0 rfl rfl ?_
  refine ck_init (av := [.ref q0]) (rest := [.ref q16, .ref h0]) e_X10_init_149 (ct_X8 l D cI cL q16 q0) il_X10_73 rfl ⟨rfl, rfl, Nat.le_of_ble_eq_true rfl, Nat.le_of_ble_eq_true rfl, Nat.le_of_ble_eq_true rfl, Nat.le_of_ble_eq_true rfl⟩ (Nat.le_of_ble_eq_true rfl) rfl 23 [0, 1, 2, 3, 4, 5, 6, 7, 8, 9, 10, 11, 12, 13, 14, 15, 16, 17, 18, 19, 20, 21, 22] [(h0, .inr (10, [.ref q0, .ref q2, .ref q4, .ref q6, .ref q8, .ref q10, .ref q12, .ref q14, .null, .null, .null, .null, .int 0])), (q0, .inr (6, [.ref (u1 0), .ref (u1 1), .ref (u1 2), .ref (u1 3), .ref (u1 4), .int (1 : Int32), .int (0 : Int32), .int (0 : Int32)])), ((u1 0), .inl (cI, 20, .inl (fun _ => 0))), ((u1 1), .inl (cI, 20, .inl (fun _ => 0))), ((u1 2), .inl (cI, 20, .inl (fun _ => 0))), ((u1 3), .inl (cI, 9, .inl (fun _ => 0))), ((u1 4), .inl (cI, 9, .inl (fun _ => 0))), (q2, .inr (3, [.ref q0, .ref (u3 1), .ref (u3 0)])), ((u3 0), .inl (cI, 9, .inl (fun _ => 0))), ((u3 1), .inl (cI, 20, .inl (fun _ => -1))), (q4, .inr (4, [.ref q0, .ref q2, .ref (u5 0), .int (0 : Int32)])), ((u5 0), .inl (cI, 9, .inl (fun _ => 0))), (q6, .inr (5, [.ref q0, .ref q2, .ref q4, .ref (u7 0), .int (0 : Int32)])), ((u7 0), .inl (cI, 5, .inl (fun _ => 0))), (q8, .inr (2, [.ref q0, .ref q2])), (q10, .inr (1, [.ref q0, .ref q2, .int (0 : Int32), .int (0 : Int32), .int (0 : Int32)])), (q12, .inr (7, [.ref q0, .ref (u13 0), .ref (u13 1), .ref (u13 2), .int (-1 : Int32), .int (0 : Int32), .int (-1 : Int32), .int (-1 : Int32)])), ((u13 0), .inl (cI, 9, .inl (fun _ => 0))), ((u13 1), .inl (cI, 20, .inl (fun _ => 0))), ((u13 2), .inl (cI, 20, .inl (fun _ => 0))), (q14, .inr (0, [.ref q0, .ref (u15 0), .ref (u15 1)])), ((u15 0), .inl (cI, 5, .inl (fun _ => 0))), ((u15 1), .inl (cI, 5, .inl (fun _ => 0)))] rfl rfl (by decide) (by decide) (fun u17 => ?_)
  refine ck_eq (ws' := [(h0, .inr (10, [.ref q0, .ref q2, .ref q4, .ref q6, .ref q8, .ref q10, .ref q12, .ref q14, .null, .null, .null, .null, .int 0])), (q0, .inr (6, [.ref (u1 0), .ref (u1 1), .ref (u1 2), .ref (u1 3), .ref (u1 4), .int (1 : Int32), .int (0 : Int32), .int (0 : Int32)])), ((u1 0), .inl (cI, 20, .inl (fun _ => 0))), ((u1 1), .inl (cI, 20, .inl (fun _ => 0))), ((u1 2), .inl (cI, 20, .inl (fun _ => 0))), ((u1 3), .inl (cI, 9, .inl (fun _ => 0))), ((u1 4), .inl (cI, 9, .inl (fun _ => 0))), (q2, .inr (3, [.ref q0, .ref (u3 1), .ref (u3 0)])), ((u3 0), .inl (cI, 9, .inl (fun _ => 0))), ((u3 1), .inl (cI, 20, .inl (fun _ => -1))), (q4, .inr (4, [.ref q0, .ref q2, .ref (u5 0), .int (0 : Int32)])), ((u5 0), .inl (cI, 9, .inl (fun _ => 0))), (q6, .inr (5, [.ref q0, .ref q2, .ref q4, .ref (u7 0), .int (0 : Int32)])), ((u7 0), .inl (cI, 5, .inl (fun _ => 0))), (q8, .inr (2, [.ref q0, .ref q2])), (q10, .inr (1, [.ref q0, .ref q2, .int (0 : Int32), .int (0 : Int32), .int (0 : Int32)])), (q12, .inr (7, [.ref q0, .ref (u13 0), .ref (u13 1), .ref (u13 2), .int (-1 : Int32), .int (0 : Int32), .int (-1 : Int32), .int (-1 : Int32)])), ((u13 0), .inl (cI, 9, .inl (fun _ => 0))), ((u13 1), .inl (cI, 20, .inl (fun _ => 0))), ((u13 2), .inl (cI, 20, .inl (fun _ => 0))), (q14, .inr (0, [.ref q0, .ref (u15 0), .ref (u15 1)])), ((u15 0), .inl (cI, 5, .inl (fun _ => 0))), ((u15 1), .inl (cI, 5, .inl (fun _ => 0))), (q16, .inr (8, [.ref q0, .ref (u17 0), .ref (u17 1)])), ((u17 0), .inl (cI, 9, .inl (fun _ => 0))), ((u17 1), .inl (cI, 10, .inl (fun _ => 0)))]) rfl ?_
  refine ck_widen (k := 25) (n := 240) (by omega) (by omega) ?_
  refine ck_putF (ws' := [(h0, .inr (10, [.ref q0, .ref q2, .ref q4, .ref q6, .ref q8, .ref q10, .ref q12, .ref q14, .ref q16, .null, .null, .null, .int 0])), (q0, .inr (6, [.ref (u1 0), .ref (u1 1), .ref (u1 2), .ref (u1 3), .ref (u1 4), .int (1 : Int32), .int (0 : Int32), .int (0 : Int32)])), ((u1 0), .inl (cI, 20, .inl (fun _ => 0))), ((u1 1), .inl (cI, 20, .inl (fun _ => 0))), ((u1 2), .inl (cI, 20, .inl (fun _ => 0))), ((u1 3), .inl (cI, 9, .inl (fun _ => 0))), ((u1 4), .inl (cI, 9, .inl (fun _ => 0))), (q2, .inr (3, [.ref q0, .ref (u3 1), .ref (u3 0)])), ((u3 0), .inl (cI, 9, .inl (fun _ => 0))), ((u3 1), .inl (cI, 20, .inl (fun _ => -1))), (q4, .inr (4, [.ref q0, .ref q2, .ref (u5 0), .int (0 : Int32)])), ((u5 0), .inl (cI, 9, .inl (fun _ => 0))), (q6, .inr (5, [.ref q0, .ref q2, .ref q4, .ref (u7 0), .int (0 : Int32)])), ((u7 0), .inl (cI, 5, .inl (fun _ => 0))), (q8, .inr (2, [.ref q0, .ref q2])), (q10, .inr (1, [.ref q0, .ref q2, .int (0 : Int32), .int (0 : Int32), .int (0 : Int32)])), (q12, .inr (7, [.ref q0, .ref (u13 0), .ref (u13 1), .ref (u13 2), .int (-1 : Int32), .int (0 : Int32), .int (-1 : Int32), .int (-1 : Int32)])), ((u13 0), .inl (cI, 9, .inl (fun _ => 0))), ((u13 1), .inl (cI, 20, .inl (fun _ => 0))), ((u13 2), .inl (cI, 20, .inl (fun _ => 0))), (q14, .inr (0, [.ref q0, .ref (u15 0), .ref (u15 1)])), ((u15 0), .inl (cI, 5, .inl (fun _ => 0))), ((u15 1), .inl (cI, 5, .inl (fun _ => 0))), (q16, .inr (8, [.ref q0, .ref (u17 0), .ref (u17 1)])), ((u17 0), .inl (cI, 9, .inl (fun _ => 0))), ((u17 1), .inl (cI, 10, .inl (fun _ => 0)))]) e_X10_init_152 fl_X10_74 ff_X10_8 lk_X10_74 rfl rfl 0 rfl (Nat.le_of_ble_eq_true rfl) rfl ?_
  refine ck_aload_n 0 rfl e_X10_init_155 ?_
  refine ck_new (ci := 9) (fs := [.null, .null, .null, .null, .null, .int 0, .int 0]) (C' := RX9) (T := TX9) (N := 7) e_X10_init_156 rfl ws_X9 tyX9_ok cl_X10_78 in_X9 ini_X9 dv_X9 (Nat.le_of_ble_eq_true rfl) (Nat.le_of_ble_eq_true rfl) (fun q18 => ?_)
  refine ck_eq (ws' := [(h0, .inr (10, [.ref q0, .ref q2, .ref q4, .ref q6, .ref q8, .ref q10, .ref q12, .ref q14, .ref q16, .null, .null, .null, .int 0])), (q0, .inr (6, [.ref (u1 0), .ref (u1 1), .ref (u1 2), .ref (u1 3), .ref (u1 4), .int (1 : Int32), .int (0 : Int32), .int (0 : Int32)])), ((u1 0), .inl (cI, 20, .inl (fun _ => 0))), ((u1 1), .inl (cI, 20, .inl (fun _ => 0))), ((u1 2), .inl (cI, 20, .inl (fun _ => 0))), ((u1 3), .inl (cI, 9, .inl (fun _ => 0))), ((u1 4), .inl (cI, 9, .inl (fun _ => 0))), (q2, .inr (3, [.ref q0, .ref (u3 1), .ref (u3 0)])), ((u3 0), .inl (cI, 9, .inl (fun _ => 0))), ((u3 1), .inl (cI, 20, .inl (fun _ => -1))), (q4, .inr (4, [.ref q0, .ref q2, .ref (u5 0), .int (0 : Int32)])), ((u5 0), .inl (cI, 9, .inl (fun _ => 0))), (q6, .inr (5, [.ref q0, .ref q2, .ref q4, .ref (u7 0), .int (0 : Int32)])), ((u7 0), .inl (cI, 5, .inl (fun _ => 0))), (q8, .inr (2, [.ref q0, .ref q2])), (q10, .inr (1, [.ref q0, .ref q2, .int (0 : Int32), .int (0 : Int32), .int (0 : Int32)])), (q12, .inr (7, [.ref q0, .ref (u13 0), .ref (u13 1), .ref (u13 2), .int (-1 : Int32), .int (0 : Int32), .int (-1 : Int32), .int (-1 : Int32)])), ((u13 0), .inl (cI, 9, .inl (fun _ => 0))), ((u13 1), .inl (cI, 20, .inl (fun _ => 0))), ((u13 2), .inl (cI, 20, .inl (fun _ => 0))), (q14, .inr (0, [.ref q0, .ref (u15 0), .ref (u15 1)])), ((u15 0), .inl (cI, 5, .inl (fun _ => 0))), ((u15 1), .inl (cI, 5, .inl (fun _ => 0))), (q16, .inr (8, [.ref q0, .ref (u17 0), .ref (u17 1)])), ((u17 0), .inl (cI, 9, .inl (fun _ => 0))), ((u17 1), .inl (cI, 10, .inl (fun _ => 0))), (q18, .inr (9, [.null, .null, .null, .null, .null, .int 0, .int 0]))]) rfl ?_
  refine ck_widen (k := 26) (n := 247) (by omega) (by omega) ?_
  refine ck_dup rfl e_X10_init_159 ?_
  refine ck_aload_n 0 rfl e_X10_init_160 ?_
  refine ck_get (v := .ref q0) e_X10_init_161 fl_X10_10 0 rfl rfl ?_
  refine ck_init (av := [.ref q0]) (rest := [.ref q18, .ref h0]) e_X10_init_164 (ct_X9 l D cI cL q18 q0) il_X10_80 rfl ⟨rfl, rfl, Nat.le_of_ble_eq_true rfl, Nat.le_of_ble_eq_true rfl, Nat.le_of_ble_eq_true rfl, Nat.le_of_ble_eq_true rfl⟩ (Nat.le_of_ble_eq_true rfl) rfl 26 [0, 1, 2, 3, 4, 5, 6, 7, 8, 9, 10, 11, 12, 13, 14, 15, 16, 17, 18, 19, 20, 21, 22, 23, 24, 25] [(h0, .inr (10, [.ref q0, .ref q2, .ref q4, .ref q6, .ref q8, .ref q10, .ref q12, .ref q14, .ref q16, .null, .null, .null, .int 0])), (q0, .inr (6, [.ref (u1 0), .ref (u1 1), .ref (u1 2), .ref (u1 3), .ref (u1 4), .int (1 : Int32), .int (0 : Int32), .int (0 : Int32)])), ((u1 0), .inl (cI, 20, .inl (fun _ => 0))), ((u1 1), .inl (cI, 20, .inl (fun _ => 0))), ((u1 2), .inl (cI, 20, .inl (fun _ => 0))), ((u1 3), .inl (cI, 9, .inl (fun _ => 0))), ((u1 4), .inl (cI, 9, .inl (fun _ => 0))), (q2, .inr (3, [.ref q0, .ref (u3 1), .ref (u3 0)])), ((u3 0), .inl (cI, 9, .inl (fun _ => 0))), ((u3 1), .inl (cI, 20, .inl (fun _ => -1))), (q4, .inr (4, [.ref q0, .ref q2, .ref (u5 0), .int (0 : Int32)])), ((u5 0), .inl (cI, 9, .inl (fun _ => 0))), (q6, .inr (5, [.ref q0, .ref q2, .ref q4, .ref (u7 0), .int (0 : Int32)])), ((u7 0), .inl (cI, 5, .inl (fun _ => 0))), (q8, .inr (2, [.ref q0, .ref q2])), (q10, .inr (1, [.ref q0, .ref q2, .int (0 : Int32), .int (0 : Int32), .int (0 : Int32)])), (q12, .inr (7, [.ref q0, .ref (u13 0), .ref (u13 1), .ref (u13 2), .int (-1 : Int32), .int (0 : Int32), .int (-1 : Int32), .int (-1 : Int32)])), ((u13 0), .inl (cI, 9, .inl (fun _ => 0))), ((u13 1), .inl (cI, 20, .inl (fun _ => 0))), ((u13 2), .inl (cI, 20, .inl (fun _ => 0))), (q14, .inr (0, [.ref q0, .ref (u15 0), .ref (u15 1)])), ((u15 0), .inl (cI, 5, .inl (fun _ => 0))), ((u15 1), .inl (cI, 5, .inl (fun _ => 0))), (q16, .inr (8, [.ref q0, .ref (u17 0), .ref (u17 1)])), ((u17 0), .inl (cI, 9, .inl (fun _ => 0))), ((u17 1), .inl (cI, 10, .inl (fun _ => 0)))] rfl rfl (by decide) (by decide) (fun u19 => ?_)
  refine ck_eq (ws' := [(h0, .inr (10, [.ref q0, .ref q2, .ref q4, .ref q6, .ref q8, .ref q10, .ref q12, .ref q14, .ref q16, .null, .null, .null, .int 0])), (q0, .inr (6, [.ref (u1 0), .ref (u1 1), .ref (u1 2), .ref (u1 3), .ref (u1 4), .int (1 : Int32), .int (0 : Int32), .int (0 : Int32)])), ((u1 0), .inl (cI, 20, .inl (fun _ => 0))), ((u1 1), .inl (cI, 20, .inl (fun _ => 0))), ((u1 2), .inl (cI, 20, .inl (fun _ => 0))), ((u1 3), .inl (cI, 9, .inl (fun _ => 0))), ((u1 4), .inl (cI, 9, .inl (fun _ => 0))), (q2, .inr (3, [.ref q0, .ref (u3 1), .ref (u3 0)])), ((u3 0), .inl (cI, 9, .inl (fun _ => 0))), ((u3 1), .inl (cI, 20, .inl (fun _ => -1))), (q4, .inr (4, [.ref q0, .ref q2, .ref (u5 0), .int (0 : Int32)])), ((u5 0), .inl (cI, 9, .inl (fun _ => 0))), (q6, .inr (5, [.ref q0, .ref q2, .ref q4, .ref (u7 0), .int (0 : Int32)])), ((u7 0), .inl (cI, 5, .inl (fun _ => 0))), (q8, .inr (2, [.ref q0, .ref q2])), (q10, .inr (1, [.ref q0, .ref q2, .int (0 : Int32), .int (0 : Int32), .int (0 : Int32)])), (q12, .inr (7, [.ref q0, .ref (u13 0), .ref (u13 1), .ref (u13 2), .int (-1 : Int32), .int (0 : Int32), .int (-1 : Int32), .int (-1 : Int32)])), ((u13 0), .inl (cI, 9, .inl (fun _ => 0))), ((u13 1), .inl (cI, 20, .inl (fun _ => 0))), ((u13 2), .inl (cI, 20, .inl (fun _ => 0))), (q14, .inr (0, [.ref q0, .ref (u15 0), .ref (u15 1)])), ((u15 0), .inl (cI, 5, .inl (fun _ => 0))), ((u15 1), .inl (cI, 5, .inl (fun _ => 0))), (q16, .inr (8, [.ref q0, .ref (u17 0), .ref (u17 1)])), ((u17 0), .inl (cI, 9, .inl (fun _ => 0))), ((u17 1), .inl (cI, 10, .inl (fun _ => 0))), (q18, .inr (9, [.ref q0, .ref (u19 0), .ref (u19 1), .ref (u19 2), .ref (u19 3), .int (1 : Int32), .int (0 : Int32)])), ((u19 0), .inl (cI, 6, .inl (fun _ => 0))), ((u19 1), .inl (cI, 128, .inl (fun _ => 0))), ((u19 2), .inl (cI, 128, .inl (fun _ => 0))), ((u19 3), .inl (cI, 128, .inl (fun _ => 0)))]) rfl ?_
  refine ck_widen (k := 30) (n := 637) (by omega) (by omega) ?_
  refine ck_putF (ws' := [(h0, .inr (10, [.ref q0, .ref q2, .ref q4, .ref q6, .ref q8, .ref q10, .ref q12, .ref q14, .ref q16, .ref q18, .null, .null, .int 0])), (q0, .inr (6, [.ref (u1 0), .ref (u1 1), .ref (u1 2), .ref (u1 3), .ref (u1 4), .int (1 : Int32), .int (0 : Int32), .int (0 : Int32)])), ((u1 0), .inl (cI, 20, .inl (fun _ => 0))), ((u1 1), .inl (cI, 20, .inl (fun _ => 0))), ((u1 2), .inl (cI, 20, .inl (fun _ => 0))), ((u1 3), .inl (cI, 9, .inl (fun _ => 0))), ((u1 4), .inl (cI, 9, .inl (fun _ => 0))), (q2, .inr (3, [.ref q0, .ref (u3 1), .ref (u3 0)])), ((u3 0), .inl (cI, 9, .inl (fun _ => 0))), ((u3 1), .inl (cI, 20, .inl (fun _ => -1))), (q4, .inr (4, [.ref q0, .ref q2, .ref (u5 0), .int (0 : Int32)])), ((u5 0), .inl (cI, 9, .inl (fun _ => 0))), (q6, .inr (5, [.ref q0, .ref q2, .ref q4, .ref (u7 0), .int (0 : Int32)])), ((u7 0), .inl (cI, 5, .inl (fun _ => 0))), (q8, .inr (2, [.ref q0, .ref q2])), (q10, .inr (1, [.ref q0, .ref q2, .int (0 : Int32), .int (0 : Int32), .int (0 : Int32)])), (q12, .inr (7, [.ref q0, .ref (u13 0), .ref (u13 1), .ref (u13 2), .int (-1 : Int32), .int (0 : Int32), .int (-1 : Int32), .int (-1 : Int32)])), ((u13 0), .inl (cI, 9, .inl (fun _ => 0))), ((u13 1), .inl (cI, 20, .inl (fun _ => 0))), ((u13 2), .inl (cI, 20, .inl (fun _ => 0))), (q14, .inr (0, [.ref q0, .ref (u15 0), .ref (u15 1)])), ((u15 0), .inl (cI, 5, .inl (fun _ => 0))), ((u15 1), .inl (cI, 5, .inl (fun _ => 0))), (q16, .inr (8, [.ref q0, .ref (u17 0), .ref (u17 1)])), ((u17 0), .inl (cI, 9, .inl (fun _ => 0))), ((u17 1), .inl (cI, 10, .inl (fun _ => 0))), (q18, .inr (9, [.ref q0, .ref (u19 0), .ref (u19 1), .ref (u19 2), .ref (u19 3), .int (1 : Int32), .int (0 : Int32)])), ((u19 0), .inl (cI, 6, .inl (fun _ => 0))), ((u19 1), .inl (cI, 128, .inl (fun _ => 0))), ((u19 2), .inl (cI, 128, .inl (fun _ => 0))), ((u19 3), .inl (cI, 128, .inl (fun _ => 0)))]) e_X10_init_167 fl_X10_81 ff_X10_9 lk_X10_81 rfl rfl 0 rfl (Nat.le_of_ble_eq_true rfl) rfl ?_
  refine ck_aload_n 0 rfl e_X10_init_170 ?_
  refine ck_bipush (v := (20 : Int32)) (by decide +kernel) e_X10_init_171 ?_
  refine ck_newi (N := 20) e_X10_init_173 aw_clsI (by decide) (by decide +kernel) (by decide) (Nat.le_of_ble_eq_true rfl) (Nat.le_of_ble_eq_true rfl) (fun q20 => ?_)
  refine ck_eq (ws' := [(h0, .inr (10, [.ref q0, .ref q2, .ref q4, .ref q6, .ref q8, .ref q10, .ref q12, .ref q14, .ref q16, .ref q18, .null, .null, .int 0])), (q0, .inr (6, [.ref (u1 0), .ref (u1 1), .ref (u1 2), .ref (u1 3), .ref (u1 4), .int (1 : Int32), .int (0 : Int32), .int (0 : Int32)])), ((u1 0), .inl (cI, 20, .inl (fun _ => 0))), ((u1 1), .inl (cI, 20, .inl (fun _ => 0))), ((u1 2), .inl (cI, 20, .inl (fun _ => 0))), ((u1 3), .inl (cI, 9, .inl (fun _ => 0))), ((u1 4), .inl (cI, 9, .inl (fun _ => 0))), (q2, .inr (3, [.ref q0, .ref (u3 1), .ref (u3 0)])), ((u3 0), .inl (cI, 9, .inl (fun _ => 0))), ((u3 1), .inl (cI, 20, .inl (fun _ => -1))), (q4, .inr (4, [.ref q0, .ref q2, .ref (u5 0), .int (0 : Int32)])), ((u5 0), .inl (cI, 9, .inl (fun _ => 0))), (q6, .inr (5, [.ref q0, .ref q2, .ref q4, .ref (u7 0), .int (0 : Int32)])), ((u7 0), .inl (cI, 5, .inl (fun _ => 0))), (q8, .inr (2, [.ref q0, .ref q2])), (q10, .inr (1, [.ref q0, .ref q2, .int (0 : Int32), .int (0 : Int32), .int (0 : Int32)])), (q12, .inr (7, [.ref q0, .ref (u13 0), .ref (u13 1), .ref (u13 2), .int (-1 : Int32), .int (0 : Int32), .int (-1 : Int32), .int (-1 : Int32)])), ((u13 0), .inl (cI, 9, .inl (fun _ => 0))), ((u13 1), .inl (cI, 20, .inl (fun _ => 0))), ((u13 2), .inl (cI, 20, .inl (fun _ => 0))), (q14, .inr (0, [.ref q0, .ref (u15 0), .ref (u15 1)])), ((u15 0), .inl (cI, 5, .inl (fun _ => 0))), ((u15 1), .inl (cI, 5, .inl (fun _ => 0))), (q16, .inr (8, [.ref q0, .ref (u17 0), .ref (u17 1)])), ((u17 0), .inl (cI, 9, .inl (fun _ => 0))), ((u17 1), .inl (cI, 10, .inl (fun _ => 0))), (q18, .inr (9, [.ref q0, .ref (u19 0), .ref (u19 1), .ref (u19 2), .ref (u19 3), .int (1 : Int32), .int (0 : Int32)])), ((u19 0), .inl (cI, 6, .inl (fun _ => 0))), ((u19 1), .inl (cI, 128, .inl (fun _ => 0))), ((u19 2), .inl (cI, 128, .inl (fun _ => 0))), ((u19 3), .inl (cI, 128, .inl (fun _ => 0))), (q20, .inl (cI, 20, .inl (fun _ => 0)))]) rfl ?_
  refine ck_widen (k := 31) (n := 657) (by omega) (by omega) ?_
  refine ck_putF (ws' := [(h0, .inr (10, [.ref q0, .ref q2, .ref q4, .ref q6, .ref q8, .ref q10, .ref q12, .ref q14, .ref q16, .ref q18, .ref q20, .null, .int 0])), (q0, .inr (6, [.ref (u1 0), .ref (u1 1), .ref (u1 2), .ref (u1 3), .ref (u1 4), .int (1 : Int32), .int (0 : Int32), .int (0 : Int32)])), ((u1 0), .inl (cI, 20, .inl (fun _ => 0))), ((u1 1), .inl (cI, 20, .inl (fun _ => 0))), ((u1 2), .inl (cI, 20, .inl (fun _ => 0))), ((u1 3), .inl (cI, 9, .inl (fun _ => 0))), ((u1 4), .inl (cI, 9, .inl (fun _ => 0))), (q2, .inr (3, [.ref q0, .ref (u3 1), .ref (u3 0)])), ((u3 0), .inl (cI, 9, .inl (fun _ => 0))), ((u3 1), .inl (cI, 20, .inl (fun _ => -1))), (q4, .inr (4, [.ref q0, .ref q2, .ref (u5 0), .int (0 : Int32)])), ((u5 0), .inl (cI, 9, .inl (fun _ => 0))), (q6, .inr (5, [.ref q0, .ref q2, .ref q4, .ref (u7 0), .int (0 : Int32)])), ((u7 0), .inl (cI, 5, .inl (fun _ => 0))), (q8, .inr (2, [.ref q0, .ref q2])), (q10, .inr (1, [.ref q0, .ref q2, .int (0 : Int32), .int (0 : Int32), .int (0 : Int32)])), (q12, .inr (7, [.ref q0, .ref (u13 0), .ref (u13 1), .ref (u13 2), .int (-1 : Int32), .int (0 : Int32), .int (-1 : Int32), .int (-1 : Int32)])), ((u13 0), .inl (cI, 9, .inl (fun _ => 0))), ((u13 1), .inl (cI, 20, .inl (fun _ => 0))), ((u13 2), .inl (cI, 20, .inl (fun _ => 0))), (q14, .inr (0, [.ref q0, .ref (u15 0), .ref (u15 1)])), ((u15 0), .inl (cI, 5, .inl (fun _ => 0))), ((u15 1), .inl (cI, 5, .inl (fun _ => 0))), (q16, .inr (8, [.ref q0, .ref (u17 0), .ref (u17 1)])), ((u17 0), .inl (cI, 9, .inl (fun _ => 0))), ((u17 1), .inl (cI, 10, .inl (fun _ => 0))), (q18, .inr (9, [.ref q0, .ref (u19 0), .ref (u19 1), .ref (u19 2), .ref (u19 3), .int (1 : Int32), .int (0 : Int32)])), ((u19 0), .inl (cI, 6, .inl (fun _ => 0))), ((u19 1), .inl (cI, 128, .inl (fun _ => 0))), ((u19 2), .inl (cI, 128, .inl (fun _ => 0))), ((u19 3), .inl (cI, 128, .inl (fun _ => 0))), (q20, .inl (cI, 20, .inl (fun _ => 0)))]) e_X10_init_175 fl_X10_85 ff_X10_10 lk_X10_85 rfl rfl 0 rfl (Nat.le_of_ble_eq_true rfl) rfl ?_
  refine ck_aload_n 0 rfl e_X10_init_178 ?_
  refine ck_bipush (v := (20 : Int32)) (by decide +kernel) e_X10_init_179 ?_
  refine ck_newi (N := 20) e_X10_init_181 aw_clsI (by decide) (by decide +kernel) (by decide) (Nat.le_of_ble_eq_true rfl) (Nat.le_of_ble_eq_true rfl) (fun q21 => ?_)
  refine ck_eq (ws' := [(h0, .inr (10, [.ref q0, .ref q2, .ref q4, .ref q6, .ref q8, .ref q10, .ref q12, .ref q14, .ref q16, .ref q18, .ref q20, .null, .int 0])), (q0, .inr (6, [.ref (u1 0), .ref (u1 1), .ref (u1 2), .ref (u1 3), .ref (u1 4), .int (1 : Int32), .int (0 : Int32), .int (0 : Int32)])), ((u1 0), .inl (cI, 20, .inl (fun _ => 0))), ((u1 1), .inl (cI, 20, .inl (fun _ => 0))), ((u1 2), .inl (cI, 20, .inl (fun _ => 0))), ((u1 3), .inl (cI, 9, .inl (fun _ => 0))), ((u1 4), .inl (cI, 9, .inl (fun _ => 0))), (q2, .inr (3, [.ref q0, .ref (u3 1), .ref (u3 0)])), ((u3 0), .inl (cI, 9, .inl (fun _ => 0))), ((u3 1), .inl (cI, 20, .inl (fun _ => -1))), (q4, .inr (4, [.ref q0, .ref q2, .ref (u5 0), .int (0 : Int32)])), ((u5 0), .inl (cI, 9, .inl (fun _ => 0))), (q6, .inr (5, [.ref q0, .ref q2, .ref q4, .ref (u7 0), .int (0 : Int32)])), ((u7 0), .inl (cI, 5, .inl (fun _ => 0))), (q8, .inr (2, [.ref q0, .ref q2])), (q10, .inr (1, [.ref q0, .ref q2, .int (0 : Int32), .int (0 : Int32), .int (0 : Int32)])), (q12, .inr (7, [.ref q0, .ref (u13 0), .ref (u13 1), .ref (u13 2), .int (-1 : Int32), .int (0 : Int32), .int (-1 : Int32), .int (-1 : Int32)])), ((u13 0), .inl (cI, 9, .inl (fun _ => 0))), ((u13 1), .inl (cI, 20, .inl (fun _ => 0))), ((u13 2), .inl (cI, 20, .inl (fun _ => 0))), (q14, .inr (0, [.ref q0, .ref (u15 0), .ref (u15 1)])), ((u15 0), .inl (cI, 5, .inl (fun _ => 0))), ((u15 1), .inl (cI, 5, .inl (fun _ => 0))), (q16, .inr (8, [.ref q0, .ref (u17 0), .ref (u17 1)])), ((u17 0), .inl (cI, 9, .inl (fun _ => 0))), ((u17 1), .inl (cI, 10, .inl (fun _ => 0))), (q18, .inr (9, [.ref q0, .ref (u19 0), .ref (u19 1), .ref (u19 2), .ref (u19 3), .int (1 : Int32), .int (0 : Int32)])), ((u19 0), .inl (cI, 6, .inl (fun _ => 0))), ((u19 1), .inl (cI, 128, .inl (fun _ => 0))), ((u19 2), .inl (cI, 128, .inl (fun _ => 0))), ((u19 3), .inl (cI, 128, .inl (fun _ => 0))), (q20, .inl (cI, 20, .inl (fun _ => 0))), (q21, .inl (cI, 20, .inl (fun _ => 0)))]) rfl ?_
  refine ck_widen (k := 32) (n := 677) (by omega) (by omega) ?_
  refine ck_putF (ws' := [(h0, .inr (10, [.ref q0, .ref q2, .ref q4, .ref q6, .ref q8, .ref q10, .ref q12, .ref q14, .ref q16, .ref q18, .ref q20, .ref q21, .int 0])), (q0, .inr (6, [.ref (u1 0), .ref (u1 1), .ref (u1 2), .ref (u1 3), .ref (u1 4), .int (1 : Int32), .int (0 : Int32), .int (0 : Int32)])), ((u1 0), .inl (cI, 20, .inl (fun _ => 0))), ((u1 1), .inl (cI, 20, .inl (fun _ => 0))), ((u1 2), .inl (cI, 20, .inl (fun _ => 0))), ((u1 3), .inl (cI, 9, .inl (fun _ => 0))), ((u1 4), .inl (cI, 9, .inl (fun _ => 0))), (q2, .inr (3, [.ref q0, .ref (u3 1), .ref (u3 0)])), ((u3 0), .inl (cI, 9, .inl (fun _ => 0))), ((u3 1), .inl (cI, 20, .inl (fun _ => -1))), (q4, .inr (4, [.ref q0, .ref q2, .ref (u5 0), .int (0 : Int32)])), ((u5 0), .inl (cI, 9, .inl (fun _ => 0))), (q6, .inr (5, [.ref q0, .ref q2, .ref q4, .ref (u7 0), .int (0 : Int32)])), ((u7 0), .inl (cI, 5, .inl (fun _ => 0))), (q8, .inr (2, [.ref q0, .ref q2])), (q10, .inr (1, [.ref q0, .ref q2, .int (0 : Int32), .int (0 : Int32), .int (0 : Int32)])), (q12, .inr (7, [.ref q0, .ref (u13 0), .ref (u13 1), .ref (u13 2), .int (-1 : Int32), .int (0 : Int32), .int (-1 : Int32), .int (-1 : Int32)])), ((u13 0), .inl (cI, 9, .inl (fun _ => 0))), ((u13 1), .inl (cI, 20, .inl (fun _ => 0))), ((u13 2), .inl (cI, 20, .inl (fun _ => 0))), (q14, .inr (0, [.ref q0, .ref (u15 0), .ref (u15 1)])), ((u15 0), .inl (cI, 5, .inl (fun _ => 0))), ((u15 1), .inl (cI, 5, .inl (fun _ => 0))), (q16, .inr (8, [.ref q0, .ref (u17 0), .ref (u17 1)])), ((u17 0), .inl (cI, 9, .inl (fun _ => 0))), ((u17 1), .inl (cI, 10, .inl (fun _ => 0))), (q18, .inr (9, [.ref q0, .ref (u19 0), .ref (u19 1), .ref (u19 2), .ref (u19 3), .int (1 : Int32), .int (0 : Int32)])), ((u19 0), .inl (cI, 6, .inl (fun _ => 0))), ((u19 1), .inl (cI, 128, .inl (fun _ => 0))), ((u19 2), .inl (cI, 128, .inl (fun _ => 0))), ((u19 3), .inl (cI, 128, .inl (fun _ => 0))), (q20, .inl (cI, 20, .inl (fun _ => 0))), (q21, .inl (cI, 20, .inl (fun _ => 0)))]) e_X10_init_183 fl_X10_89 ff_X10_11 lk_X10_89 rfl rfl 0 rfl (Nat.le_of_ble_eq_true rfl) rfl ?_
  refine ck_aload_n 0 rfl e_X10_init_186 ?_
  refine ck_iconst (v := (0 : Int32)) (by decide +kernel) e_X10_init_187 ?_
  refine ck_put (ws' := [(h0, .inr (10, [.ref q0, .ref q2, .ref q4, .ref q6, .ref q8, .ref q10, .ref q12, .ref q14, .ref q16, .ref q18, .ref q20, .ref q21, .int (0 : Int32)])), (q0, .inr (6, [.ref (u1 0), .ref (u1 1), .ref (u1 2), .ref (u1 3), .ref (u1 4), .int (1 : Int32), .int (0 : Int32), .int (0 : Int32)])), ((u1 0), .inl (cI, 20, .inl (fun _ => 0))), ((u1 1), .inl (cI, 20, .inl (fun _ => 0))), ((u1 2), .inl (cI, 20, .inl (fun _ => 0))), ((u1 3), .inl (cI, 9, .inl (fun _ => 0))), ((u1 4), .inl (cI, 9, .inl (fun _ => 0))), (q2, .inr (3, [.ref q0, .ref (u3 1), .ref (u3 0)])), ((u3 0), .inl (cI, 9, .inl (fun _ => 0))), ((u3 1), .inl (cI, 20, .inl (fun _ => -1))), (q4, .inr (4, [.ref q0, .ref q2, .ref (u5 0), .int (0 : Int32)])), ((u5 0), .inl (cI, 9, .inl (fun _ => 0))), (q6, .inr (5, [.ref q0, .ref q2, .ref q4, .ref (u7 0), .int (0 : Int32)])), ((u7 0), .inl (cI, 5, .inl (fun _ => 0))), (q8, .inr (2, [.ref q0, .ref q2])), (q10, .inr (1, [.ref q0, .ref q2, .int (0 : Int32), .int (0 : Int32), .int (0 : Int32)])), (q12, .inr (7, [.ref q0, .ref (u13 0), .ref (u13 1), .ref (u13 2), .int (-1 : Int32), .int (0 : Int32), .int (-1 : Int32), .int (-1 : Int32)])), ((u13 0), .inl (cI, 9, .inl (fun _ => 0))), ((u13 1), .inl (cI, 20, .inl (fun _ => 0))), ((u13 2), .inl (cI, 20, .inl (fun _ => 0))), (q14, .inr (0, [.ref q0, .ref (u15 0), .ref (u15 1)])), ((u15 0), .inl (cI, 5, .inl (fun _ => 0))), ((u15 1), .inl (cI, 5, .inl (fun _ => 0))), (q16, .inr (8, [.ref q0, .ref (u17 0), .ref (u17 1)])), ((u17 0), .inl (cI, 9, .inl (fun _ => 0))), ((u17 1), .inl (cI, 10, .inl (fun _ => 0))), (q18, .inr (9, [.ref q0, .ref (u19 0), .ref (u19 1), .ref (u19 2), .ref (u19 3), .int (1 : Int32), .int (0 : Int32)])), ((u19 0), .inl (cI, 6, .inl (fun _ => 0))), ((u19 1), .inl (cI, 128, .inl (fun _ => 0))), ((u19 2), .inl (cI, 128, .inl (fun _ => 0))), ((u19 3), .inl (cI, 128, .inl (fun _ => 0))), (q20, .inl (cI, 20, .inl (fun _ => 0))), (q21, .inl (cI, 20, .inl (fun _ => 0)))]) e_X10_init_188 fl_X10_92 fn_X10_12 lk_X10_92 rfl rfl 0 rfl (Nat.le_of_ble_eq_true rfl) rfl ?_
  exact ck_vret (fun i => [q0, (u1 0), (u1 1), (u1 2), (u1 3), (u1 4), q2, (u3 0), (u3 1), q4, (u5 0), q6, (u7 0), q8, q10, q12, (u13 0), (u13 1), (u13 2), q14, (u15 0), (u15 1), q16, (u17 0), (u17 1), q18, (u19 0), (u19 1), (u19 2), (u19 3), q20, q21].getD i 0) e_X10_init_191 rfl [0, 1, 2, 3, 4, 5, 6, 7, 8, 9, 10, 11, 12, 13, 14, 15, 16, 17, 18, 19, 20, 21, 22, 23, 24, 25, 26, 27, 28, 29, 30, 31, 32] (by decide) rfl rfl
def co_X11 (cI cL : ClassId) (h0 : Nat) (u : Nat → Nat) : va_W := [(h0, .inr (11, [.int 0, .int (1 : Int32), .int 0, .ref (u 0), .ref (u 1), .ref (u 2), .ref (u 3), .ref (u 4), .int 0, .int 0, .ref (u 5), .int 0, .int 0, .ref (u 6), .ref (u 7), .ref (u 8), .ref (u 9), .int 0, .ref (u 10), .ref (u 11), .ref (u 12), .ref (u 13), .ref (u 14), .int 0, .ref (u 15), .ref (u 16), .ref (u 17), .ref (u 18), .ref (u 19), .ref (u 20), .ref (u 21)])), ((u 0), .inl (cI, 20, .inl (fun _ => 0))), ((u 1), .inl (cI, 20, .inl (fun _ => 0))), ((u 2), .inl (cI, 20, .inl (fun _ => 0))), ((u 3), .inl (cI, 20, .inl (fun _ => 0))), ((u 4), .inl (cI, 20, .inl (fun _ => 0))), ((u 5), .inl (cI, 9, .inl (fun _ => 0))), ((u 6), .inl (cI, 5, .inl (fun _ => 0))), ((u 7), .inl (cI, 9, .inl (fun _ => 0))), ((u 8), .inl (cI, 18, .inl (fun _ => 0))), ((u 9), .inl (cI, 20, .inl (fun _ => 0))), ((u 10), .inl (cI, 20, .inl (fun _ => 0))), ((u 11), .inl (cI, 9, .inl (fun _ => 0))), ((u 12), .inl (cI, 20, .inl (fun _ => 0))), ((u 13), .inl (cI, 20, .inl (fun _ => 0))), ((u 14), .inl (cI, 9, .inl (fun _ => 0))), ((u 15), .inl (cI, 10, .inl (fun _ => 0))), ((u 16), .inl (cL, 10, .inr (.inl (fun _ => 0)))), ((u 17), .inl (cI, 20, .inl (fun _ => 0))), ((u 18), .inl (cI, 4096, .inl (fun _ => 0))), ((u 19), .inl (cI, 4096, .inl (fun _ => 0))), ((u 20), .inl (cI, 10752, .inl (fun _ => 0))), ((u 21), .inl (cI, 2560, .inl (fun _ => 0)))]
set_option maxRecDepth 8000 in
set_option maxHeartbeats 4000000 in
theorem ct_X11 (l : Launch) (D : va_G) (cI cL : ClassId) (h0 : Nat) : ct_M l D cI cL yX11_init cX11_init 1 ({ frames := 4, cells := 22, slots := 21783, locals := 300 }) h0 [] (.inr (11, [.int 0, .int 0, .int 0, .null, .null, .null, .null, .null, .int 0, .int 0, .null, .int 0, .int 0, .null, .null, .null, .null, .int 0, .null, .null, .null, .null, .null, .int 0, .null, .null, .null, .null, .null, .null, .null])) (co_X11 cI cL h0) 22 21783 := by
  refine ck_met (own := RX11) (by decide) rfl rfl (Nat.le_of_ble_eq_true rfl) rfl (fun sz => ?_)
  refine ck_aload_n 0 rfl e_X11_init_0 ?_
  refine ck_objInit e_X11_init_1 ol_X11 ol_inst ol_code ⟨Nat.le_of_ble_eq_true rfl, Nat.le_of_ble_eq_true rfl⟩ ?_
  refine ck_aload_n 0 rfl e_X11_init_4 ?_
  refine ck_iconst (v := (1 : Int32)) (by decide +kernel) e_X11_init_5 ?_
  refine ck_put (ws' := [(h0, .inr (11, [.int 0, .int (1 : Int32), .int 0, .null, .null, .null, .null, .null, .int 0, .int 0, .null, .int 0, .int 0, .null, .null, .null, .null, .int 0, .null, .null, .null, .null, .null, .int 0, .null, .null, .null, .null, .null, .null, .null]))]) e_X11_init_6 fl_X11_21 fn_X11_1 lk_X11_21 rfl rfl 0 rfl (Nat.le_of_ble_eq_true rfl) rfl ?_
  refine ck_aload_n 0 rfl e_X11_init_9 ?_
  refine ck_bipush (v := (20 : Int32)) (by decide +kernel) e_X11_init_10 ?_
  refine ck_newi (N := 20) e_X11_init_12 aw_clsI (by decide) (by decide +kernel) (by decide) (Nat.le_of_ble_eq_true rfl) (Nat.le_of_ble_eq_true rfl) (fun q0 => ?_)
  refine ck_eq (ws' := [(h0, .inr (11, [.int 0, .int (1 : Int32), .int 0, .null, .null, .null, .null, .null, .int 0, .int 0, .null, .int 0, .int 0, .null, .null, .null, .null, .int 0, .null, .null, .null, .null, .null, .int 0, .null, .null, .null, .null, .null, .null, .null])), (q0, .inl (cI, 20, .inl (fun _ => 0)))]) rfl ?_
  refine ck_widen (k := 1) (n := 20) (by omega) (by omega) ?_
  refine ck_putF (ws' := [(h0, .inr (11, [.int 0, .int (1 : Int32), .int 0, .ref q0, .null, .null, .null, .null, .int 0, .int 0, .null, .int 0, .int 0, .null, .null, .null, .null, .int 0, .null, .null, .null, .null, .null, .int 0, .null, .null, .null, .null, .null, .null, .null])), (q0, .inl (cI, 20, .inl (fun _ => 0)))]) e_X11_init_14 fl_X11_24 ff_X11_3 lk_X11_24 rfl rfl 0 rfl (Nat.le_of_ble_eq_true rfl) rfl ?_
  refine ck_aload_n 0 rfl e_X11_init_17 ?_
  refine ck_bipush (v := (20 : Int32)) (by decide +kernel) e_X11_init_18 ?_
  refine ck_newi (N := 20) e_X11_init_20 aw_clsI (by decide) (by decide +kernel) (by decide) (Nat.le_of_ble_eq_true rfl) (Nat.le_of_ble_eq_true rfl) (fun q1 => ?_)
  refine ck_eq (ws' := [(h0, .inr (11, [.int 0, .int (1 : Int32), .int 0, .ref q0, .null, .null, .null, .null, .int 0, .int 0, .null, .int 0, .int 0, .null, .null, .null, .null, .int 0, .null, .null, .null, .null, .null, .int 0, .null, .null, .null, .null, .null, .null, .null])), (q0, .inl (cI, 20, .inl (fun _ => 0))), (q1, .inl (cI, 20, .inl (fun _ => 0)))]) rfl ?_
  refine ck_widen (k := 2) (n := 40) (by omega) (by omega) ?_
  refine ck_putF (ws' := [(h0, .inr (11, [.int 0, .int (1 : Int32), .int 0, .ref q0, .ref q1, .null, .null, .null, .int 0, .int 0, .null, .int 0, .int 0, .null, .null, .null, .null, .int 0, .null, .null, .null, .null, .null, .int 0, .null, .null, .null, .null, .null, .null, .null])), (q0, .inl (cI, 20, .inl (fun _ => 0))), (q1, .inl (cI, 20, .inl (fun _ => 0)))]) e_X11_init_22 fl_X11_28 ff_X11_4 lk_X11_28 rfl rfl 0 rfl (Nat.le_of_ble_eq_true rfl) rfl ?_
  refine ck_aload_n 0 rfl e_X11_init_25 ?_
  refine ck_bipush (v := (20 : Int32)) (by decide +kernel) e_X11_init_26 ?_
  refine ck_newi (N := 20) e_X11_init_28 aw_clsI (by decide) (by decide +kernel) (by decide) (Nat.le_of_ble_eq_true rfl) (Nat.le_of_ble_eq_true rfl) (fun q2 => ?_)
  refine ck_eq (ws' := [(h0, .inr (11, [.int 0, .int (1 : Int32), .int 0, .ref q0, .ref q1, .null, .null, .null, .int 0, .int 0, .null, .int 0, .int 0, .null, .null, .null, .null, .int 0, .null, .null, .null, .null, .null, .int 0, .null, .null, .null, .null, .null, .null, .null])), (q0, .inl (cI, 20, .inl (fun _ => 0))), (q1, .inl (cI, 20, .inl (fun _ => 0))), (q2, .inl (cI, 20, .inl (fun _ => 0)))]) rfl ?_
  refine ck_widen (k := 3) (n := 60) (by omega) (by omega) ?_
  refine ck_putF (ws' := [(h0, .inr (11, [.int 0, .int (1 : Int32), .int 0, .ref q0, .ref q1, .ref q2, .null, .null, .int 0, .int 0, .null, .int 0, .int 0, .null, .null, .null, .null, .int 0, .null, .null, .null, .null, .null, .int 0, .null, .null, .null, .null, .null, .null, .null])), (q0, .inl (cI, 20, .inl (fun _ => 0))), (q1, .inl (cI, 20, .inl (fun _ => 0))), (q2, .inl (cI, 20, .inl (fun _ => 0)))]) e_X11_init_30 fl_X11_31 ff_X11_5 lk_X11_31 rfl rfl 0 rfl (Nat.le_of_ble_eq_true rfl) rfl ?_
  refine ck_aload_n 0 rfl e_X11_init_33 ?_
  refine ck_bipush (v := (20 : Int32)) (by decide +kernel) e_X11_init_34 ?_
  refine ck_newi (N := 20) e_X11_init_36 aw_clsI (by decide) (by decide +kernel) (by decide) (Nat.le_of_ble_eq_true rfl) (Nat.le_of_ble_eq_true rfl) (fun q3 => ?_)
  refine ck_eq (ws' := [(h0, .inr (11, [.int 0, .int (1 : Int32), .int 0, .ref q0, .ref q1, .ref q2, .null, .null, .int 0, .int 0, .null, .int 0, .int 0, .null, .null, .null, .null, .int 0, .null, .null, .null, .null, .null, .int 0, .null, .null, .null, .null, .null, .null, .null])), (q0, .inl (cI, 20, .inl (fun _ => 0))), (q1, .inl (cI, 20, .inl (fun _ => 0))), (q2, .inl (cI, 20, .inl (fun _ => 0))), (q3, .inl (cI, 20, .inl (fun _ => 0)))]) rfl ?_
  refine ck_widen (k := 4) (n := 80) (by omega) (by omega) ?_
  refine ck_putF (ws' := [(h0, .inr (11, [.int 0, .int (1 : Int32), .int 0, .ref q0, .ref q1, .ref q2, .ref q3, .null, .int 0, .int 0, .null, .int 0, .int 0, .null, .null, .null, .null, .int 0, .null, .null, .null, .null, .null, .int 0, .null, .null, .null, .null, .null, .null, .null])), (q0, .inl (cI, 20, .inl (fun _ => 0))), (q1, .inl (cI, 20, .inl (fun _ => 0))), (q2, .inl (cI, 20, .inl (fun _ => 0))), (q3, .inl (cI, 20, .inl (fun _ => 0)))]) e_X11_init_38 fl_X11_34 ff_X11_6 lk_X11_34 rfl rfl 0 rfl (Nat.le_of_ble_eq_true rfl) rfl ?_
  refine ck_aload_n 0 rfl e_X11_init_41 ?_
  refine ck_bipush (v := (20 : Int32)) (by decide +kernel) e_X11_init_42 ?_
  refine ck_newi (N := 20) e_X11_init_44 aw_clsI (by decide) (by decide +kernel) (by decide) (Nat.le_of_ble_eq_true rfl) (Nat.le_of_ble_eq_true rfl) (fun q4 => ?_)
  refine ck_eq (ws' := [(h0, .inr (11, [.int 0, .int (1 : Int32), .int 0, .ref q0, .ref q1, .ref q2, .ref q3, .null, .int 0, .int 0, .null, .int 0, .int 0, .null, .null, .null, .null, .int 0, .null, .null, .null, .null, .null, .int 0, .null, .null, .null, .null, .null, .null, .null])), (q0, .inl (cI, 20, .inl (fun _ => 0))), (q1, .inl (cI, 20, .inl (fun _ => 0))), (q2, .inl (cI, 20, .inl (fun _ => 0))), (q3, .inl (cI, 20, .inl (fun _ => 0))), (q4, .inl (cI, 20, .inl (fun _ => 0)))]) rfl ?_
  refine ck_widen (k := 5) (n := 100) (by omega) (by omega) ?_
  refine ck_putF (ws' := [(h0, .inr (11, [.int 0, .int (1 : Int32), .int 0, .ref q0, .ref q1, .ref q2, .ref q3, .ref q4, .int 0, .int 0, .null, .int 0, .int 0, .null, .null, .null, .null, .int 0, .null, .null, .null, .null, .null, .int 0, .null, .null, .null, .null, .null, .null, .null])), (q0, .inl (cI, 20, .inl (fun _ => 0))), (q1, .inl (cI, 20, .inl (fun _ => 0))), (q2, .inl (cI, 20, .inl (fun _ => 0))), (q3, .inl (cI, 20, .inl (fun _ => 0))), (q4, .inl (cI, 20, .inl (fun _ => 0)))]) e_X11_init_46 fl_X11_37 ff_X11_7 lk_X11_37 rfl rfl 0 rfl (Nat.le_of_ble_eq_true rfl) rfl ?_
  refine ck_aload_n 0 rfl e_X11_init_49 ?_
  refine ck_bipush (v := (9 : Int32)) (by decide +kernel) e_X11_init_50 ?_
  refine ck_newi (N := 9) e_X11_init_52 aw_clsI (by decide) (by decide +kernel) (by decide) (Nat.le_of_ble_eq_true rfl) (Nat.le_of_ble_eq_true rfl) (fun q5 => ?_)
  refine ck_eq (ws' := [(h0, .inr (11, [.int 0, .int (1 : Int32), .int 0, .ref q0, .ref q1, .ref q2, .ref q3, .ref q4, .int 0, .int 0, .null, .int 0, .int 0, .null, .null, .null, .null, .int 0, .null, .null, .null, .null, .null, .int 0, .null, .null, .null, .null, .null, .null, .null])), (q0, .inl (cI, 20, .inl (fun _ => 0))), (q1, .inl (cI, 20, .inl (fun _ => 0))), (q2, .inl (cI, 20, .inl (fun _ => 0))), (q3, .inl (cI, 20, .inl (fun _ => 0))), (q4, .inl (cI, 20, .inl (fun _ => 0))), (q5, .inl (cI, 9, .inl (fun _ => 0)))]) rfl ?_
  refine ck_widen (k := 6) (n := 109) (by omega) (by omega) ?_
  refine ck_putF (ws' := [(h0, .inr (11, [.int 0, .int (1 : Int32), .int 0, .ref q0, .ref q1, .ref q2, .ref q3, .ref q4, .int 0, .int 0, .ref q5, .int 0, .int 0, .null, .null, .null, .null, .int 0, .null, .null, .null, .null, .null, .int 0, .null, .null, .null, .null, .null, .null, .null])), (q0, .inl (cI, 20, .inl (fun _ => 0))), (q1, .inl (cI, 20, .inl (fun _ => 0))), (q2, .inl (cI, 20, .inl (fun _ => 0))), (q3, .inl (cI, 20, .inl (fun _ => 0))), (q4, .inl (cI, 20, .inl (fun _ => 0))), (q5, .inl (cI, 9, .inl (fun _ => 0)))]) e_X11_init_54 fl_X11_40 ff_X11_10 lk_X11_40 rfl rfl 0 rfl (Nat.le_of_ble_eq_true rfl) rfl ?_
  refine ck_aload_n 0 rfl e_X11_init_57 ?_
  refine ck_iconst (v := (5 : Int32)) (by decide +kernel) e_X11_init_58 ?_
  refine ck_newi (N := 5) e_X11_init_59 aw_clsI (by decide) (by decide +kernel) (by decide) (Nat.le_of_ble_eq_true rfl) (Nat.le_of_ble_eq_true rfl) (fun q6 => ?_)
  refine ck_eq (ws' := [(h0, .inr (11, [.int 0, .int (1 : Int32), .int 0, .ref q0, .ref q1, .ref q2, .ref q3, .ref q4, .int 0, .int 0, .ref q5, .int 0, .int 0, .null, .null, .null, .null, .int 0, .null, .null, .null, .null, .null, .int 0, .null, .null, .null, .null, .null, .null, .null])), (q0, .inl (cI, 20, .inl (fun _ => 0))), (q1, .inl (cI, 20, .inl (fun _ => 0))), (q2, .inl (cI, 20, .inl (fun _ => 0))), (q3, .inl (cI, 20, .inl (fun _ => 0))), (q4, .inl (cI, 20, .inl (fun _ => 0))), (q5, .inl (cI, 9, .inl (fun _ => 0))), (q6, .inl (cI, 5, .inl (fun _ => 0)))]) rfl ?_
  refine ck_widen (k := 7) (n := 114) (by omega) (by omega) ?_
  refine ck_putF (ws' := [(h0, .inr (11, [.int 0, .int (1 : Int32), .int 0, .ref q0, .ref q1, .ref q2, .ref q3, .ref q4, .int 0, .int 0, .ref q5, .int 0, .int 0, .ref q6, .null, .null, .null, .int 0, .null, .null, .null, .null, .null, .int 0, .null, .null, .null, .null, .null, .null, .null])), (q0, .inl (cI, 20, .inl (fun _ => 0))), (q1, .inl (cI, 20, .inl (fun _ => 0))), (q2, .inl (cI, 20, .inl (fun _ => 0))), (q3, .inl (cI, 20, .inl (fun _ => 0))), (q4, .inl (cI, 20, .inl (fun _ => 0))), (q5, .inl (cI, 9, .inl (fun _ => 0))), (q6, .inl (cI, 5, .inl (fun _ => 0)))]) e_X11_init_61 fl_X11_43 ff_X11_13 lk_X11_43 rfl rfl 0 rfl (Nat.le_of_ble_eq_true rfl) rfl ?_
  refine ck_aload_n 0 rfl e_X11_init_64 ?_
  refine ck_bipush (v := (9 : Int32)) (by decide +kernel) e_X11_init_65 ?_
  refine ck_newi (N := 9) e_X11_init_67 aw_clsI (by decide) (by decide +kernel) (by decide) (Nat.le_of_ble_eq_true rfl) (Nat.le_of_ble_eq_true rfl) (fun q7 => ?_)
  refine ck_eq (ws' := [(h0, .inr (11, [.int 0, .int (1 : Int32), .int 0, .ref q0, .ref q1, .ref q2, .ref q3, .ref q4, .int 0, .int 0, .ref q5, .int 0, .int 0, .ref q6, .null, .null, .null, .int 0, .null, .null, .null, .null, .null, .int 0, .null, .null, .null, .null, .null, .null, .null])), (q0, .inl (cI, 20, .inl (fun _ => 0))), (q1, .inl (cI, 20, .inl (fun _ => 0))), (q2, .inl (cI, 20, .inl (fun _ => 0))), (q3, .inl (cI, 20, .inl (fun _ => 0))), (q4, .inl (cI, 20, .inl (fun _ => 0))), (q5, .inl (cI, 9, .inl (fun _ => 0))), (q6, .inl (cI, 5, .inl (fun _ => 0))), (q7, .inl (cI, 9, .inl (fun _ => 0)))]) rfl ?_
  refine ck_widen (k := 8) (n := 123) (by omega) (by omega) ?_
  refine ck_putF (ws' := [(h0, .inr (11, [.int 0, .int (1 : Int32), .int 0, .ref q0, .ref q1, .ref q2, .ref q3, .ref q4, .int 0, .int 0, .ref q5, .int 0, .int 0, .ref q6, .ref q7, .null, .null, .int 0, .null, .null, .null, .null, .null, .int 0, .null, .null, .null, .null, .null, .null, .null])), (q0, .inl (cI, 20, .inl (fun _ => 0))), (q1, .inl (cI, 20, .inl (fun _ => 0))), (q2, .inl (cI, 20, .inl (fun _ => 0))), (q3, .inl (cI, 20, .inl (fun _ => 0))), (q4, .inl (cI, 20, .inl (fun _ => 0))), (q5, .inl (cI, 9, .inl (fun _ => 0))), (q6, .inl (cI, 5, .inl (fun _ => 0))), (q7, .inl (cI, 9, .inl (fun _ => 0)))]) e_X11_init_69 fl_X11_46 ff_X11_14 lk_X11_46 rfl rfl 0 rfl (Nat.le_of_ble_eq_true rfl) rfl ?_
  refine ck_aload_n 0 rfl e_X11_init_72 ?_
  refine ck_bipush (v := (18 : Int32)) (by decide +kernel) e_X11_init_73 ?_
  refine ck_newi (N := 18) e_X11_init_75 aw_clsI (by decide) (by decide +kernel) (by decide) (Nat.le_of_ble_eq_true rfl) (Nat.le_of_ble_eq_true rfl) (fun q8 => ?_)
  refine ck_eq (ws' := [(h0, .inr (11, [.int 0, .int (1 : Int32), .int 0, .ref q0, .ref q1, .ref q2, .ref q3, .ref q4, .int 0, .int 0, .ref q5, .int 0, .int 0, .ref q6, .ref q7, .null, .null, .int 0, .null, .null, .null, .null, .null, .int 0, .null, .null, .null, .null, .null, .null, .null])), (q0, .inl (cI, 20, .inl (fun _ => 0))), (q1, .inl (cI, 20, .inl (fun _ => 0))), (q2, .inl (cI, 20, .inl (fun _ => 0))), (q3, .inl (cI, 20, .inl (fun _ => 0))), (q4, .inl (cI, 20, .inl (fun _ => 0))), (q5, .inl (cI, 9, .inl (fun _ => 0))), (q6, .inl (cI, 5, .inl (fun _ => 0))), (q7, .inl (cI, 9, .inl (fun _ => 0))), (q8, .inl (cI, 18, .inl (fun _ => 0)))]) rfl ?_
  refine ck_widen (k := 9) (n := 141) (by omega) (by omega) ?_
  refine ck_putF (ws' := [(h0, .inr (11, [.int 0, .int (1 : Int32), .int 0, .ref q0, .ref q1, .ref q2, .ref q3, .ref q4, .int 0, .int 0, .ref q5, .int 0, .int 0, .ref q6, .ref q7, .ref q8, .null, .int 0, .null, .null, .null, .null, .null, .int 0, .null, .null, .null, .null, .null, .null, .null])), (q0, .inl (cI, 20, .inl (fun _ => 0))), (q1, .inl (cI, 20, .inl (fun _ => 0))), (q2, .inl (cI, 20, .inl (fun _ => 0))), (q3, .inl (cI, 20, .inl (fun _ => 0))), (q4, .inl (cI, 20, .inl (fun _ => 0))), (q5, .inl (cI, 9, .inl (fun _ => 0))), (q6, .inl (cI, 5, .inl (fun _ => 0))), (q7, .inl (cI, 9, .inl (fun _ => 0))), (q8, .inl (cI, 18, .inl (fun _ => 0)))]) e_X11_init_77 fl_X11_49 ff_X11_15 lk_X11_49 rfl rfl 0 rfl (Nat.le_of_ble_eq_true rfl) rfl ?_
  refine ck_aload_n 0 rfl e_X11_init_80 ?_
  refine ck_bipush (v := (20 : Int32)) (by decide +kernel) e_X11_init_81 ?_
  refine ck_newi (N := 20) e_X11_init_83 aw_clsI (by decide) (by decide +kernel) (by decide) (Nat.le_of_ble_eq_true rfl) (Nat.le_of_ble_eq_true rfl) (fun q9 => ?_)
  refine ck_eq (ws' := [(h0, .inr (11, [.int 0, .int (1 : Int32), .int 0, .ref q0, .ref q1, .ref q2, .ref q3, .ref q4, .int 0, .int 0, .ref q5, .int 0, .int 0, .ref q6, .ref q7, .ref q8, .null, .int 0, .null, .null, .null, .null, .null, .int 0, .null, .null, .null, .null, .null, .null, .null])), (q0, .inl (cI, 20, .inl (fun _ => 0))), (q1, .inl (cI, 20, .inl (fun _ => 0))), (q2, .inl (cI, 20, .inl (fun _ => 0))), (q3, .inl (cI, 20, .inl (fun _ => 0))), (q4, .inl (cI, 20, .inl (fun _ => 0))), (q5, .inl (cI, 9, .inl (fun _ => 0))), (q6, .inl (cI, 5, .inl (fun _ => 0))), (q7, .inl (cI, 9, .inl (fun _ => 0))), (q8, .inl (cI, 18, .inl (fun _ => 0))), (q9, .inl (cI, 20, .inl (fun _ => 0)))]) rfl ?_
  refine ck_widen (k := 10) (n := 161) (by omega) (by omega) ?_
  refine ck_putF (ws' := [(h0, .inr (11, [.int 0, .int (1 : Int32), .int 0, .ref q0, .ref q1, .ref q2, .ref q3, .ref q4, .int 0, .int 0, .ref q5, .int 0, .int 0, .ref q6, .ref q7, .ref q8, .ref q9, .int 0, .null, .null, .null, .null, .null, .int 0, .null, .null, .null, .null, .null, .null, .null])), (q0, .inl (cI, 20, .inl (fun _ => 0))), (q1, .inl (cI, 20, .inl (fun _ => 0))), (q2, .inl (cI, 20, .inl (fun _ => 0))), (q3, .inl (cI, 20, .inl (fun _ => 0))), (q4, .inl (cI, 20, .inl (fun _ => 0))), (q5, .inl (cI, 9, .inl (fun _ => 0))), (q6, .inl (cI, 5, .inl (fun _ => 0))), (q7, .inl (cI, 9, .inl (fun _ => 0))), (q8, .inl (cI, 18, .inl (fun _ => 0))), (q9, .inl (cI, 20, .inl (fun _ => 0)))]) e_X11_init_85 fl_X11_52 ff_X11_16 lk_X11_52 rfl rfl 0 rfl (Nat.le_of_ble_eq_true rfl) rfl ?_
  refine ck_aload_n 0 rfl e_X11_init_88 ?_
  refine ck_bipush (v := (20 : Int32)) (by decide +kernel) e_X11_init_89 ?_
  refine ck_newi (N := 20) e_X11_init_91 aw_clsI (by decide) (by decide +kernel) (by decide) (Nat.le_of_ble_eq_true rfl) (Nat.le_of_ble_eq_true rfl) (fun q10 => ?_)
  refine ck_eq (ws' := [(h0, .inr (11, [.int 0, .int (1 : Int32), .int 0, .ref q0, .ref q1, .ref q2, .ref q3, .ref q4, .int 0, .int 0, .ref q5, .int 0, .int 0, .ref q6, .ref q7, .ref q8, .ref q9, .int 0, .null, .null, .null, .null, .null, .int 0, .null, .null, .null, .null, .null, .null, .null])), (q0, .inl (cI, 20, .inl (fun _ => 0))), (q1, .inl (cI, 20, .inl (fun _ => 0))), (q2, .inl (cI, 20, .inl (fun _ => 0))), (q3, .inl (cI, 20, .inl (fun _ => 0))), (q4, .inl (cI, 20, .inl (fun _ => 0))), (q5, .inl (cI, 9, .inl (fun _ => 0))), (q6, .inl (cI, 5, .inl (fun _ => 0))), (q7, .inl (cI, 9, .inl (fun _ => 0))), (q8, .inl (cI, 18, .inl (fun _ => 0))), (q9, .inl (cI, 20, .inl (fun _ => 0))), (q10, .inl (cI, 20, .inl (fun _ => 0)))]) rfl ?_
  refine ck_widen (k := 11) (n := 181) (by omega) (by omega) ?_
  refine ck_putF (ws' := [(h0, .inr (11, [.int 0, .int (1 : Int32), .int 0, .ref q0, .ref q1, .ref q2, .ref q3, .ref q4, .int 0, .int 0, .ref q5, .int 0, .int 0, .ref q6, .ref q7, .ref q8, .ref q9, .int 0, .ref q10, .null, .null, .null, .null, .int 0, .null, .null, .null, .null, .null, .null, .null])), (q0, .inl (cI, 20, .inl (fun _ => 0))), (q1, .inl (cI, 20, .inl (fun _ => 0))), (q2, .inl (cI, 20, .inl (fun _ => 0))), (q3, .inl (cI, 20, .inl (fun _ => 0))), (q4, .inl (cI, 20, .inl (fun _ => 0))), (q5, .inl (cI, 9, .inl (fun _ => 0))), (q6, .inl (cI, 5, .inl (fun _ => 0))), (q7, .inl (cI, 9, .inl (fun _ => 0))), (q8, .inl (cI, 18, .inl (fun _ => 0))), (q9, .inl (cI, 20, .inl (fun _ => 0))), (q10, .inl (cI, 20, .inl (fun _ => 0)))]) e_X11_init_93 fl_X11_55 ff_X11_18 lk_X11_55 rfl rfl 0 rfl (Nat.le_of_ble_eq_true rfl) rfl ?_
  refine ck_aload_n 0 rfl e_X11_init_96 ?_
  refine ck_bipush (v := (9 : Int32)) (by decide +kernel) e_X11_init_97 ?_
  refine ck_newi (N := 9) e_X11_init_99 aw_clsI (by decide) (by decide +kernel) (by decide) (Nat.le_of_ble_eq_true rfl) (Nat.le_of_ble_eq_true rfl) (fun q11 => ?_)
  refine ck_eq (ws' := [(h0, .inr (11, [.int 0, .int (1 : Int32), .int 0, .ref q0, .ref q1, .ref q2, .ref q3, .ref q4, .int 0, .int 0, .ref q5, .int 0, .int 0, .ref q6, .ref q7, .ref q8, .ref q9, .int 0, .ref q10, .null, .null, .null, .null, .int 0, .null, .null, .null, .null, .null, .null, .null])), (q0, .inl (cI, 20, .inl (fun _ => 0))), (q1, .inl (cI, 20, .inl (fun _ => 0))), (q2, .inl (cI, 20, .inl (fun _ => 0))), (q3, .inl (cI, 20, .inl (fun _ => 0))), (q4, .inl (cI, 20, .inl (fun _ => 0))), (q5, .inl (cI, 9, .inl (fun _ => 0))), (q6, .inl (cI, 5, .inl (fun _ => 0))), (q7, .inl (cI, 9, .inl (fun _ => 0))), (q8, .inl (cI, 18, .inl (fun _ => 0))), (q9, .inl (cI, 20, .inl (fun _ => 0))), (q10, .inl (cI, 20, .inl (fun _ => 0))), (q11, .inl (cI, 9, .inl (fun _ => 0)))]) rfl ?_
  refine ck_widen (k := 12) (n := 190) (by omega) (by omega) ?_
  refine ck_putF (ws' := [(h0, .inr (11, [.int 0, .int (1 : Int32), .int 0, .ref q0, .ref q1, .ref q2, .ref q3, .ref q4, .int 0, .int 0, .ref q5, .int 0, .int 0, .ref q6, .ref q7, .ref q8, .ref q9, .int 0, .ref q10, .ref q11, .null, .null, .null, .int 0, .null, .null, .null, .null, .null, .null, .null])), (q0, .inl (cI, 20, .inl (fun _ => 0))), (q1, .inl (cI, 20, .inl (fun _ => 0))), (q2, .inl (cI, 20, .inl (fun _ => 0))), (q3, .inl (cI, 20, .inl (fun _ => 0))), (q4, .inl (cI, 20, .inl (fun _ => 0))), (q5, .inl (cI, 9, .inl (fun _ => 0))), (q6, .inl (cI, 5, .inl (fun _ => 0))), (q7, .inl (cI, 9, .inl (fun _ => 0))), (q8, .inl (cI, 18, .inl (fun _ => 0))), (q9, .inl (cI, 20, .inl (fun _ => 0))), (q10, .inl (cI, 20, .inl (fun _ => 0))), (q11, .inl (cI, 9, .inl (fun _ => 0)))]) e_X11_init_101 fl_X11_58 ff_X11_19 lk_X11_58 rfl rfl 0 rfl (Nat.le_of_ble_eq_true rfl) rfl ?_
  refine ck_aload_n 0 rfl e_X11_init_104 ?_
  refine ck_bipush (v := (20 : Int32)) (by decide +kernel) e_X11_init_105 ?_
  refine ck_newi (N := 20) e_X11_init_107 aw_clsI (by decide) (by decide +kernel) (by decide) (Nat.le_of_ble_eq_true rfl) (Nat.le_of_ble_eq_true rfl) (fun q12 => ?_)
  refine ck_eq (ws' := [(h0, .inr (11, [.int 0, .int (1 : Int32), .int 0, .ref q0, .ref q1, .ref q2, .ref q3, .ref q4, .int 0, .int 0, .ref q5, .int 0, .int 0, .ref q6, .ref q7, .ref q8, .ref q9, .int 0, .ref q10, .ref q11, .null, .null, .null, .int 0, .null, .null, .null, .null, .null, .null, .null])), (q0, .inl (cI, 20, .inl (fun _ => 0))), (q1, .inl (cI, 20, .inl (fun _ => 0))), (q2, .inl (cI, 20, .inl (fun _ => 0))), (q3, .inl (cI, 20, .inl (fun _ => 0))), (q4, .inl (cI, 20, .inl (fun _ => 0))), (q5, .inl (cI, 9, .inl (fun _ => 0))), (q6, .inl (cI, 5, .inl (fun _ => 0))), (q7, .inl (cI, 9, .inl (fun _ => 0))), (q8, .inl (cI, 18, .inl (fun _ => 0))), (q9, .inl (cI, 20, .inl (fun _ => 0))), (q10, .inl (cI, 20, .inl (fun _ => 0))), (q11, .inl (cI, 9, .inl (fun _ => 0))), (q12, .inl (cI, 20, .inl (fun _ => 0)))]) rfl ?_
  refine ck_widen (k := 13) (n := 210) (by omega) (by omega) ?_
  refine ck_putF (ws' := [(h0, .inr (11, [.int 0, .int (1 : Int32), .int 0, .ref q0, .ref q1, .ref q2, .ref q3, .ref q4, .int 0, .int 0, .ref q5, .int 0, .int 0, .ref q6, .ref q7, .ref q8, .ref q9, .int 0, .ref q10, .ref q11, .ref q12, .null, .null, .int 0, .null, .null, .null, .null, .null, .null, .null])), (q0, .inl (cI, 20, .inl (fun _ => 0))), (q1, .inl (cI, 20, .inl (fun _ => 0))), (q2, .inl (cI, 20, .inl (fun _ => 0))), (q3, .inl (cI, 20, .inl (fun _ => 0))), (q4, .inl (cI, 20, .inl (fun _ => 0))), (q5, .inl (cI, 9, .inl (fun _ => 0))), (q6, .inl (cI, 5, .inl (fun _ => 0))), (q7, .inl (cI, 9, .inl (fun _ => 0))), (q8, .inl (cI, 18, .inl (fun _ => 0))), (q9, .inl (cI, 20, .inl (fun _ => 0))), (q10, .inl (cI, 20, .inl (fun _ => 0))), (q11, .inl (cI, 9, .inl (fun _ => 0))), (q12, .inl (cI, 20, .inl (fun _ => 0)))]) e_X11_init_109 fl_X11_61 ff_X11_20 lk_X11_61 rfl rfl 0 rfl (Nat.le_of_ble_eq_true rfl) rfl ?_
  refine ck_aload_n 0 rfl e_X11_init_112 ?_
  refine ck_bipush (v := (20 : Int32)) (by decide +kernel) e_X11_init_113 ?_
  refine ck_newi (N := 20) e_X11_init_115 aw_clsI (by decide) (by decide +kernel) (by decide) (Nat.le_of_ble_eq_true rfl) (Nat.le_of_ble_eq_true rfl) (fun q13 => ?_)
  refine ck_eq (ws' := [(h0, .inr (11, [.int 0, .int (1 : Int32), .int 0, .ref q0, .ref q1, .ref q2, .ref q3, .ref q4, .int 0, .int 0, .ref q5, .int 0, .int 0, .ref q6, .ref q7, .ref q8, .ref q9, .int 0, .ref q10, .ref q11, .ref q12, .null, .null, .int 0, .null, .null, .null, .null, .null, .null, .null])), (q0, .inl (cI, 20, .inl (fun _ => 0))), (q1, .inl (cI, 20, .inl (fun _ => 0))), (q2, .inl (cI, 20, .inl (fun _ => 0))), (q3, .inl (cI, 20, .inl (fun _ => 0))), (q4, .inl (cI, 20, .inl (fun _ => 0))), (q5, .inl (cI, 9, .inl (fun _ => 0))), (q6, .inl (cI, 5, .inl (fun _ => 0))), (q7, .inl (cI, 9, .inl (fun _ => 0))), (q8, .inl (cI, 18, .inl (fun _ => 0))), (q9, .inl (cI, 20, .inl (fun _ => 0))), (q10, .inl (cI, 20, .inl (fun _ => 0))), (q11, .inl (cI, 9, .inl (fun _ => 0))), (q12, .inl (cI, 20, .inl (fun _ => 0))), (q13, .inl (cI, 20, .inl (fun _ => 0)))]) rfl ?_
  refine ck_widen (k := 14) (n := 230) (by omega) (by omega) ?_
  refine ck_putF (ws' := [(h0, .inr (11, [.int 0, .int (1 : Int32), .int 0, .ref q0, .ref q1, .ref q2, .ref q3, .ref q4, .int 0, .int 0, .ref q5, .int 0, .int 0, .ref q6, .ref q7, .ref q8, .ref q9, .int 0, .ref q10, .ref q11, .ref q12, .ref q13, .null, .int 0, .null, .null, .null, .null, .null, .null, .null])), (q0, .inl (cI, 20, .inl (fun _ => 0))), (q1, .inl (cI, 20, .inl (fun _ => 0))), (q2, .inl (cI, 20, .inl (fun _ => 0))), (q3, .inl (cI, 20, .inl (fun _ => 0))), (q4, .inl (cI, 20, .inl (fun _ => 0))), (q5, .inl (cI, 9, .inl (fun _ => 0))), (q6, .inl (cI, 5, .inl (fun _ => 0))), (q7, .inl (cI, 9, .inl (fun _ => 0))), (q8, .inl (cI, 18, .inl (fun _ => 0))), (q9, .inl (cI, 20, .inl (fun _ => 0))), (q10, .inl (cI, 20, .inl (fun _ => 0))), (q11, .inl (cI, 9, .inl (fun _ => 0))), (q12, .inl (cI, 20, .inl (fun _ => 0))), (q13, .inl (cI, 20, .inl (fun _ => 0)))]) e_X11_init_117 fl_X11_64 ff_X11_21 lk_X11_64 rfl rfl 0 rfl (Nat.le_of_ble_eq_true rfl) rfl ?_
  refine ck_aload_n 0 rfl e_X11_init_120 ?_
  refine ck_bipush (v := (9 : Int32)) (by decide +kernel) e_X11_init_121 ?_
  refine ck_newi (N := 9) e_X11_init_123 aw_clsI (by decide) (by decide +kernel) (by decide) (Nat.le_of_ble_eq_true rfl) (Nat.le_of_ble_eq_true rfl) (fun q14 => ?_)
  refine ck_eq (ws' := [(h0, .inr (11, [.int 0, .int (1 : Int32), .int 0, .ref q0, .ref q1, .ref q2, .ref q3, .ref q4, .int 0, .int 0, .ref q5, .int 0, .int 0, .ref q6, .ref q7, .ref q8, .ref q9, .int 0, .ref q10, .ref q11, .ref q12, .ref q13, .null, .int 0, .null, .null, .null, .null, .null, .null, .null])), (q0, .inl (cI, 20, .inl (fun _ => 0))), (q1, .inl (cI, 20, .inl (fun _ => 0))), (q2, .inl (cI, 20, .inl (fun _ => 0))), (q3, .inl (cI, 20, .inl (fun _ => 0))), (q4, .inl (cI, 20, .inl (fun _ => 0))), (q5, .inl (cI, 9, .inl (fun _ => 0))), (q6, .inl (cI, 5, .inl (fun _ => 0))), (q7, .inl (cI, 9, .inl (fun _ => 0))), (q8, .inl (cI, 18, .inl (fun _ => 0))), (q9, .inl (cI, 20, .inl (fun _ => 0))), (q10, .inl (cI, 20, .inl (fun _ => 0))), (q11, .inl (cI, 9, .inl (fun _ => 0))), (q12, .inl (cI, 20, .inl (fun _ => 0))), (q13, .inl (cI, 20, .inl (fun _ => 0))), (q14, .inl (cI, 9, .inl (fun _ => 0)))]) rfl ?_
  refine ck_widen (k := 15) (n := 239) (by omega) (by omega) ?_
  refine ck_putF (ws' := [(h0, .inr (11, [.int 0, .int (1 : Int32), .int 0, .ref q0, .ref q1, .ref q2, .ref q3, .ref q4, .int 0, .int 0, .ref q5, .int 0, .int 0, .ref q6, .ref q7, .ref q8, .ref q9, .int 0, .ref q10, .ref q11, .ref q12, .ref q13, .ref q14, .int 0, .null, .null, .null, .null, .null, .null, .null])), (q0, .inl (cI, 20, .inl (fun _ => 0))), (q1, .inl (cI, 20, .inl (fun _ => 0))), (q2, .inl (cI, 20, .inl (fun _ => 0))), (q3, .inl (cI, 20, .inl (fun _ => 0))), (q4, .inl (cI, 20, .inl (fun _ => 0))), (q5, .inl (cI, 9, .inl (fun _ => 0))), (q6, .inl (cI, 5, .inl (fun _ => 0))), (q7, .inl (cI, 9, .inl (fun _ => 0))), (q8, .inl (cI, 18, .inl (fun _ => 0))), (q9, .inl (cI, 20, .inl (fun _ => 0))), (q10, .inl (cI, 20, .inl (fun _ => 0))), (q11, .inl (cI, 9, .inl (fun _ => 0))), (q12, .inl (cI, 20, .inl (fun _ => 0))), (q13, .inl (cI, 20, .inl (fun _ => 0))), (q14, .inl (cI, 9, .inl (fun _ => 0)))]) e_X11_init_125 fl_X11_67 ff_X11_22 lk_X11_67 rfl rfl 0 rfl (Nat.le_of_ble_eq_true rfl) rfl ?_
  refine ck_aload_n 0 rfl e_X11_init_128 ?_
  refine ck_bipush (v := (10 : Int32)) (by decide +kernel) e_X11_init_129 ?_
  refine ck_newi (N := 10) e_X11_init_131 aw_clsI (by decide) (by decide +kernel) (by decide) (Nat.le_of_ble_eq_true rfl) (Nat.le_of_ble_eq_true rfl) (fun q15 => ?_)
  refine ck_eq (ws' := [(h0, .inr (11, [.int 0, .int (1 : Int32), .int 0, .ref q0, .ref q1, .ref q2, .ref q3, .ref q4, .int 0, .int 0, .ref q5, .int 0, .int 0, .ref q6, .ref q7, .ref q8, .ref q9, .int 0, .ref q10, .ref q11, .ref q12, .ref q13, .ref q14, .int 0, .null, .null, .null, .null, .null, .null, .null])), (q0, .inl (cI, 20, .inl (fun _ => 0))), (q1, .inl (cI, 20, .inl (fun _ => 0))), (q2, .inl (cI, 20, .inl (fun _ => 0))), (q3, .inl (cI, 20, .inl (fun _ => 0))), (q4, .inl (cI, 20, .inl (fun _ => 0))), (q5, .inl (cI, 9, .inl (fun _ => 0))), (q6, .inl (cI, 5, .inl (fun _ => 0))), (q7, .inl (cI, 9, .inl (fun _ => 0))), (q8, .inl (cI, 18, .inl (fun _ => 0))), (q9, .inl (cI, 20, .inl (fun _ => 0))), (q10, .inl (cI, 20, .inl (fun _ => 0))), (q11, .inl (cI, 9, .inl (fun _ => 0))), (q12, .inl (cI, 20, .inl (fun _ => 0))), (q13, .inl (cI, 20, .inl (fun _ => 0))), (q14, .inl (cI, 9, .inl (fun _ => 0))), (q15, .inl (cI, 10, .inl (fun _ => 0)))]) rfl ?_
  refine ck_widen (k := 16) (n := 249) (by omega) (by omega) ?_
  refine ck_putF (ws' := [(h0, .inr (11, [.int 0, .int (1 : Int32), .int 0, .ref q0, .ref q1, .ref q2, .ref q3, .ref q4, .int 0, .int 0, .ref q5, .int 0, .int 0, .ref q6, .ref q7, .ref q8, .ref q9, .int 0, .ref q10, .ref q11, .ref q12, .ref q13, .ref q14, .int 0, .ref q15, .null, .null, .null, .null, .null, .null])), (q0, .inl (cI, 20, .inl (fun _ => 0))), (q1, .inl (cI, 20, .inl (fun _ => 0))), (q2, .inl (cI, 20, .inl (fun _ => 0))), (q3, .inl (cI, 20, .inl (fun _ => 0))), (q4, .inl (cI, 20, .inl (fun _ => 0))), (q5, .inl (cI, 9, .inl (fun _ => 0))), (q6, .inl (cI, 5, .inl (fun _ => 0))), (q7, .inl (cI, 9, .inl (fun _ => 0))), (q8, .inl (cI, 18, .inl (fun _ => 0))), (q9, .inl (cI, 20, .inl (fun _ => 0))), (q10, .inl (cI, 20, .inl (fun _ => 0))), (q11, .inl (cI, 9, .inl (fun _ => 0))), (q12, .inl (cI, 20, .inl (fun _ => 0))), (q13, .inl (cI, 20, .inl (fun _ => 0))), (q14, .inl (cI, 9, .inl (fun _ => 0))), (q15, .inl (cI, 10, .inl (fun _ => 0)))]) e_X11_init_133 fl_X11_70 ff_X11_24 lk_X11_70 rfl rfl 0 rfl (Nat.le_of_ble_eq_true rfl) rfl ?_
  refine ck_aload_n 0 rfl e_X11_init_136 ?_
  refine ck_bipush (v := (10 : Int32)) (by decide +kernel) e_X11_init_137 ?_
  refine ck_newl (N := 10) e_X11_init_139 aw_clsL (by decide) (by decide +kernel) (by decide) (Nat.le_of_ble_eq_true rfl) (Nat.le_of_ble_eq_true rfl) (fun q16 => ?_)
  refine ck_eq (ws' := [(h0, .inr (11, [.int 0, .int (1 : Int32), .int 0, .ref q0, .ref q1, .ref q2, .ref q3, .ref q4, .int 0, .int 0, .ref q5, .int 0, .int 0, .ref q6, .ref q7, .ref q8, .ref q9, .int 0, .ref q10, .ref q11, .ref q12, .ref q13, .ref q14, .int 0, .ref q15, .null, .null, .null, .null, .null, .null])), (q0, .inl (cI, 20, .inl (fun _ => 0))), (q1, .inl (cI, 20, .inl (fun _ => 0))), (q2, .inl (cI, 20, .inl (fun _ => 0))), (q3, .inl (cI, 20, .inl (fun _ => 0))), (q4, .inl (cI, 20, .inl (fun _ => 0))), (q5, .inl (cI, 9, .inl (fun _ => 0))), (q6, .inl (cI, 5, .inl (fun _ => 0))), (q7, .inl (cI, 9, .inl (fun _ => 0))), (q8, .inl (cI, 18, .inl (fun _ => 0))), (q9, .inl (cI, 20, .inl (fun _ => 0))), (q10, .inl (cI, 20, .inl (fun _ => 0))), (q11, .inl (cI, 9, .inl (fun _ => 0))), (q12, .inl (cI, 20, .inl (fun _ => 0))), (q13, .inl (cI, 20, .inl (fun _ => 0))), (q14, .inl (cI, 9, .inl (fun _ => 0))), (q15, .inl (cI, 10, .inl (fun _ => 0))), (q16, .inl (cL, 10, .inr (.inl (fun _ => 0))))]) rfl ?_
  refine ck_widen (k := 17) (n := 259) (by omega) (by omega) ?_
  refine ck_putF (ws' := [(h0, .inr (11, [.int 0, .int (1 : Int32), .int 0, .ref q0, .ref q1, .ref q2, .ref q3, .ref q4, .int 0, .int 0, .ref q5, .int 0, .int 0, .ref q6, .ref q7, .ref q8, .ref q9, .int 0, .ref q10, .ref q11, .ref q12, .ref q13, .ref q14, .int 0, .ref q15, .ref q16, .null, .null, .null, .null, .null])), (q0, .inl (cI, 20, .inl (fun _ => 0))), (q1, .inl (cI, 20, .inl (fun _ => 0))), (q2, .inl (cI, 20, .inl (fun _ => 0))), (q3, .inl (cI, 20, .inl (fun _ => 0))), (q4, .inl (cI, 20, .inl (fun _ => 0))), (q5, .inl (cI, 9, .inl (fun _ => 0))), (q6, .inl (cI, 5, .inl (fun _ => 0))), (q7, .inl (cI, 9, .inl (fun _ => 0))), (q8, .inl (cI, 18, .inl (fun _ => 0))), (q9, .inl (cI, 20, .inl (fun _ => 0))), (q10, .inl (cI, 20, .inl (fun _ => 0))), (q11, .inl (cI, 9, .inl (fun _ => 0))), (q12, .inl (cI, 20, .inl (fun _ => 0))), (q13, .inl (cI, 20, .inl (fun _ => 0))), (q14, .inl (cI, 9, .inl (fun _ => 0))), (q15, .inl (cI, 10, .inl (fun _ => 0))), (q16, .inl (cL, 10, .inr (.inl (fun _ => 0))))]) e_X11_init_141 fl_X11_73 ff_X11_25 lk_X11_73 rfl rfl 0 rfl (Nat.le_of_ble_eq_true rfl) rfl ?_
  refine ck_aload_n 0 rfl e_X11_init_144 ?_
  refine ck_bipush (v := (20 : Int32)) (by decide +kernel) e_X11_init_145 ?_
  refine ck_newi (N := 20) e_X11_init_147 aw_clsI (by decide) (by decide +kernel) (by decide) (Nat.le_of_ble_eq_true rfl) (Nat.le_of_ble_eq_true rfl) (fun q17 => ?_)
  refine ck_eq (ws' := [(h0, .inr (11, [.int 0, .int (1 : Int32), .int 0, .ref q0, .ref q1, .ref q2, .ref q3, .ref q4, .int 0, .int 0, .ref q5, .int 0, .int 0, .ref q6, .ref q7, .ref q8, .ref q9, .int 0, .ref q10, .ref q11, .ref q12, .ref q13, .ref q14, .int 0, .ref q15, .ref q16, .null, .null, .null, .null, .null])), (q0, .inl (cI, 20, .inl (fun _ => 0))), (q1, .inl (cI, 20, .inl (fun _ => 0))), (q2, .inl (cI, 20, .inl (fun _ => 0))), (q3, .inl (cI, 20, .inl (fun _ => 0))), (q4, .inl (cI, 20, .inl (fun _ => 0))), (q5, .inl (cI, 9, .inl (fun _ => 0))), (q6, .inl (cI, 5, .inl (fun _ => 0))), (q7, .inl (cI, 9, .inl (fun _ => 0))), (q8, .inl (cI, 18, .inl (fun _ => 0))), (q9, .inl (cI, 20, .inl (fun _ => 0))), (q10, .inl (cI, 20, .inl (fun _ => 0))), (q11, .inl (cI, 9, .inl (fun _ => 0))), (q12, .inl (cI, 20, .inl (fun _ => 0))), (q13, .inl (cI, 20, .inl (fun _ => 0))), (q14, .inl (cI, 9, .inl (fun _ => 0))), (q15, .inl (cI, 10, .inl (fun _ => 0))), (q16, .inl (cL, 10, .inr (.inl (fun _ => 0)))), (q17, .inl (cI, 20, .inl (fun _ => 0)))]) rfl ?_
  refine ck_widen (k := 18) (n := 279) (by omega) (by omega) ?_
  refine ck_putF (ws' := [(h0, .inr (11, [.int 0, .int (1 : Int32), .int 0, .ref q0, .ref q1, .ref q2, .ref q3, .ref q4, .int 0, .int 0, .ref q5, .int 0, .int 0, .ref q6, .ref q7, .ref q8, .ref q9, .int 0, .ref q10, .ref q11, .ref q12, .ref q13, .ref q14, .int 0, .ref q15, .ref q16, .ref q17, .null, .null, .null, .null])), (q0, .inl (cI, 20, .inl (fun _ => 0))), (q1, .inl (cI, 20, .inl (fun _ => 0))), (q2, .inl (cI, 20, .inl (fun _ => 0))), (q3, .inl (cI, 20, .inl (fun _ => 0))), (q4, .inl (cI, 20, .inl (fun _ => 0))), (q5, .inl (cI, 9, .inl (fun _ => 0))), (q6, .inl (cI, 5, .inl (fun _ => 0))), (q7, .inl (cI, 9, .inl (fun _ => 0))), (q8, .inl (cI, 18, .inl (fun _ => 0))), (q9, .inl (cI, 20, .inl (fun _ => 0))), (q10, .inl (cI, 20, .inl (fun _ => 0))), (q11, .inl (cI, 9, .inl (fun _ => 0))), (q12, .inl (cI, 20, .inl (fun _ => 0))), (q13, .inl (cI, 20, .inl (fun _ => 0))), (q14, .inl (cI, 9, .inl (fun _ => 0))), (q15, .inl (cI, 10, .inl (fun _ => 0))), (q16, .inl (cL, 10, .inr (.inl (fun _ => 0)))), (q17, .inl (cI, 20, .inl (fun _ => 0)))]) e_X11_init_149 fl_X11_77 ff_X11_26 lk_X11_77 rfl rfl 0 rfl (Nat.le_of_ble_eq_true rfl) rfl ?_
  refine ck_aload_n 0 rfl e_X11_init_152 ?_
  refine ck_sipush (v := (4096 : Int32)) (by decide +kernel) e_X11_init_153 ?_
  refine ck_newi (N := 4096) e_X11_init_156 aw_clsI (by decide) (by decide +kernel) (by decide) (Nat.le_of_ble_eq_true rfl) (Nat.le_of_ble_eq_true rfl) (fun q18 => ?_)
  refine ck_eq (ws' := [(h0, .inr (11, [.int 0, .int (1 : Int32), .int 0, .ref q0, .ref q1, .ref q2, .ref q3, .ref q4, .int 0, .int 0, .ref q5, .int 0, .int 0, .ref q6, .ref q7, .ref q8, .ref q9, .int 0, .ref q10, .ref q11, .ref q12, .ref q13, .ref q14, .int 0, .ref q15, .ref q16, .ref q17, .null, .null, .null, .null])), (q0, .inl (cI, 20, .inl (fun _ => 0))), (q1, .inl (cI, 20, .inl (fun _ => 0))), (q2, .inl (cI, 20, .inl (fun _ => 0))), (q3, .inl (cI, 20, .inl (fun _ => 0))), (q4, .inl (cI, 20, .inl (fun _ => 0))), (q5, .inl (cI, 9, .inl (fun _ => 0))), (q6, .inl (cI, 5, .inl (fun _ => 0))), (q7, .inl (cI, 9, .inl (fun _ => 0))), (q8, .inl (cI, 18, .inl (fun _ => 0))), (q9, .inl (cI, 20, .inl (fun _ => 0))), (q10, .inl (cI, 20, .inl (fun _ => 0))), (q11, .inl (cI, 9, .inl (fun _ => 0))), (q12, .inl (cI, 20, .inl (fun _ => 0))), (q13, .inl (cI, 20, .inl (fun _ => 0))), (q14, .inl (cI, 9, .inl (fun _ => 0))), (q15, .inl (cI, 10, .inl (fun _ => 0))), (q16, .inl (cL, 10, .inr (.inl (fun _ => 0)))), (q17, .inl (cI, 20, .inl (fun _ => 0))), (q18, .inl (cI, 4096, .inl (fun _ => 0)))]) rfl ?_
  refine ck_widen (k := 19) (n := 4375) (by omega) (by omega) ?_
  refine ck_putF (ws' := [(h0, .inr (11, [.int 0, .int (1 : Int32), .int 0, .ref q0, .ref q1, .ref q2, .ref q3, .ref q4, .int 0, .int 0, .ref q5, .int 0, .int 0, .ref q6, .ref q7, .ref q8, .ref q9, .int 0, .ref q10, .ref q11, .ref q12, .ref q13, .ref q14, .int 0, .ref q15, .ref q16, .ref q17, .ref q18, .null, .null, .null])), (q0, .inl (cI, 20, .inl (fun _ => 0))), (q1, .inl (cI, 20, .inl (fun _ => 0))), (q2, .inl (cI, 20, .inl (fun _ => 0))), (q3, .inl (cI, 20, .inl (fun _ => 0))), (q4, .inl (cI, 20, .inl (fun _ => 0))), (q5, .inl (cI, 9, .inl (fun _ => 0))), (q6, .inl (cI, 5, .inl (fun _ => 0))), (q7, .inl (cI, 9, .inl (fun _ => 0))), (q8, .inl (cI, 18, .inl (fun _ => 0))), (q9, .inl (cI, 20, .inl (fun _ => 0))), (q10, .inl (cI, 20, .inl (fun _ => 0))), (q11, .inl (cI, 9, .inl (fun _ => 0))), (q12, .inl (cI, 20, .inl (fun _ => 0))), (q13, .inl (cI, 20, .inl (fun _ => 0))), (q14, .inl (cI, 9, .inl (fun _ => 0))), (q15, .inl (cI, 10, .inl (fun _ => 0))), (q16, .inl (cL, 10, .inr (.inl (fun _ => 0)))), (q17, .inl (cI, 20, .inl (fun _ => 0))), (q18, .inl (cI, 4096, .inl (fun _ => 0)))]) e_X11_init_158 fl_X11_80 ff_X11_27 lk_X11_80 rfl rfl 0 rfl (Nat.le_of_ble_eq_true rfl) rfl ?_
  refine ck_aload_n 0 rfl e_X11_init_161 ?_
  refine ck_sipush (v := (4096 : Int32)) (by decide +kernel) e_X11_init_162 ?_
  refine ck_newi (N := 4096) e_X11_init_165 aw_clsI (by decide) (by decide +kernel) (by decide) (Nat.le_of_ble_eq_true rfl) (Nat.le_of_ble_eq_true rfl) (fun q19 => ?_)
  refine ck_eq (ws' := [(h0, .inr (11, [.int 0, .int (1 : Int32), .int 0, .ref q0, .ref q1, .ref q2, .ref q3, .ref q4, .int 0, .int 0, .ref q5, .int 0, .int 0, .ref q6, .ref q7, .ref q8, .ref q9, .int 0, .ref q10, .ref q11, .ref q12, .ref q13, .ref q14, .int 0, .ref q15, .ref q16, .ref q17, .ref q18, .null, .null, .null])), (q0, .inl (cI, 20, .inl (fun _ => 0))), (q1, .inl (cI, 20, .inl (fun _ => 0))), (q2, .inl (cI, 20, .inl (fun _ => 0))), (q3, .inl (cI, 20, .inl (fun _ => 0))), (q4, .inl (cI, 20, .inl (fun _ => 0))), (q5, .inl (cI, 9, .inl (fun _ => 0))), (q6, .inl (cI, 5, .inl (fun _ => 0))), (q7, .inl (cI, 9, .inl (fun _ => 0))), (q8, .inl (cI, 18, .inl (fun _ => 0))), (q9, .inl (cI, 20, .inl (fun _ => 0))), (q10, .inl (cI, 20, .inl (fun _ => 0))), (q11, .inl (cI, 9, .inl (fun _ => 0))), (q12, .inl (cI, 20, .inl (fun _ => 0))), (q13, .inl (cI, 20, .inl (fun _ => 0))), (q14, .inl (cI, 9, .inl (fun _ => 0))), (q15, .inl (cI, 10, .inl (fun _ => 0))), (q16, .inl (cL, 10, .inr (.inl (fun _ => 0)))), (q17, .inl (cI, 20, .inl (fun _ => 0))), (q18, .inl (cI, 4096, .inl (fun _ => 0))), (q19, .inl (cI, 4096, .inl (fun _ => 0)))]) rfl ?_
  refine ck_widen (k := 20) (n := 8471) (by omega) (by omega) ?_
  refine ck_putF (ws' := [(h0, .inr (11, [.int 0, .int (1 : Int32), .int 0, .ref q0, .ref q1, .ref q2, .ref q3, .ref q4, .int 0, .int 0, .ref q5, .int 0, .int 0, .ref q6, .ref q7, .ref q8, .ref q9, .int 0, .ref q10, .ref q11, .ref q12, .ref q13, .ref q14, .int 0, .ref q15, .ref q16, .ref q17, .ref q18, .ref q19, .null, .null])), (q0, .inl (cI, 20, .inl (fun _ => 0))), (q1, .inl (cI, 20, .inl (fun _ => 0))), (q2, .inl (cI, 20, .inl (fun _ => 0))), (q3, .inl (cI, 20, .inl (fun _ => 0))), (q4, .inl (cI, 20, .inl (fun _ => 0))), (q5, .inl (cI, 9, .inl (fun _ => 0))), (q6, .inl (cI, 5, .inl (fun _ => 0))), (q7, .inl (cI, 9, .inl (fun _ => 0))), (q8, .inl (cI, 18, .inl (fun _ => 0))), (q9, .inl (cI, 20, .inl (fun _ => 0))), (q10, .inl (cI, 20, .inl (fun _ => 0))), (q11, .inl (cI, 9, .inl (fun _ => 0))), (q12, .inl (cI, 20, .inl (fun _ => 0))), (q13, .inl (cI, 20, .inl (fun _ => 0))), (q14, .inl (cI, 9, .inl (fun _ => 0))), (q15, .inl (cI, 10, .inl (fun _ => 0))), (q16, .inl (cL, 10, .inr (.inl (fun _ => 0)))), (q17, .inl (cI, 20, .inl (fun _ => 0))), (q18, .inl (cI, 4096, .inl (fun _ => 0))), (q19, .inl (cI, 4096, .inl (fun _ => 0)))]) e_X11_init_167 fl_X11_83 ff_X11_28 lk_X11_83 rfl rfl 0 rfl (Nat.le_of_ble_eq_true rfl) rfl ?_
  refine ck_aload_n 0 rfl e_X11_init_170 ?_
  refine ck_sipush (v := (10752 : Int32)) (by decide +kernel) e_X11_init_171 ?_
  refine ck_newi (N := 10752) e_X11_init_174 aw_clsI (by decide) (by decide +kernel) (by decide) (Nat.le_of_ble_eq_true rfl) (Nat.le_of_ble_eq_true rfl) (fun q20 => ?_)
  refine ck_eq (ws' := [(h0, .inr (11, [.int 0, .int (1 : Int32), .int 0, .ref q0, .ref q1, .ref q2, .ref q3, .ref q4, .int 0, .int 0, .ref q5, .int 0, .int 0, .ref q6, .ref q7, .ref q8, .ref q9, .int 0, .ref q10, .ref q11, .ref q12, .ref q13, .ref q14, .int 0, .ref q15, .ref q16, .ref q17, .ref q18, .ref q19, .null, .null])), (q0, .inl (cI, 20, .inl (fun _ => 0))), (q1, .inl (cI, 20, .inl (fun _ => 0))), (q2, .inl (cI, 20, .inl (fun _ => 0))), (q3, .inl (cI, 20, .inl (fun _ => 0))), (q4, .inl (cI, 20, .inl (fun _ => 0))), (q5, .inl (cI, 9, .inl (fun _ => 0))), (q6, .inl (cI, 5, .inl (fun _ => 0))), (q7, .inl (cI, 9, .inl (fun _ => 0))), (q8, .inl (cI, 18, .inl (fun _ => 0))), (q9, .inl (cI, 20, .inl (fun _ => 0))), (q10, .inl (cI, 20, .inl (fun _ => 0))), (q11, .inl (cI, 9, .inl (fun _ => 0))), (q12, .inl (cI, 20, .inl (fun _ => 0))), (q13, .inl (cI, 20, .inl (fun _ => 0))), (q14, .inl (cI, 9, .inl (fun _ => 0))), (q15, .inl (cI, 10, .inl (fun _ => 0))), (q16, .inl (cL, 10, .inr (.inl (fun _ => 0)))), (q17, .inl (cI, 20, .inl (fun _ => 0))), (q18, .inl (cI, 4096, .inl (fun _ => 0))), (q19, .inl (cI, 4096, .inl (fun _ => 0))), (q20, .inl (cI, 10752, .inl (fun _ => 0)))]) rfl ?_
  refine ck_widen (k := 21) (n := 19223) (by omega) (by omega) ?_
  refine ck_putF (ws' := [(h0, .inr (11, [.int 0, .int (1 : Int32), .int 0, .ref q0, .ref q1, .ref q2, .ref q3, .ref q4, .int 0, .int 0, .ref q5, .int 0, .int 0, .ref q6, .ref q7, .ref q8, .ref q9, .int 0, .ref q10, .ref q11, .ref q12, .ref q13, .ref q14, .int 0, .ref q15, .ref q16, .ref q17, .ref q18, .ref q19, .ref q20, .null])), (q0, .inl (cI, 20, .inl (fun _ => 0))), (q1, .inl (cI, 20, .inl (fun _ => 0))), (q2, .inl (cI, 20, .inl (fun _ => 0))), (q3, .inl (cI, 20, .inl (fun _ => 0))), (q4, .inl (cI, 20, .inl (fun _ => 0))), (q5, .inl (cI, 9, .inl (fun _ => 0))), (q6, .inl (cI, 5, .inl (fun _ => 0))), (q7, .inl (cI, 9, .inl (fun _ => 0))), (q8, .inl (cI, 18, .inl (fun _ => 0))), (q9, .inl (cI, 20, .inl (fun _ => 0))), (q10, .inl (cI, 20, .inl (fun _ => 0))), (q11, .inl (cI, 9, .inl (fun _ => 0))), (q12, .inl (cI, 20, .inl (fun _ => 0))), (q13, .inl (cI, 20, .inl (fun _ => 0))), (q14, .inl (cI, 9, .inl (fun _ => 0))), (q15, .inl (cI, 10, .inl (fun _ => 0))), (q16, .inl (cL, 10, .inr (.inl (fun _ => 0)))), (q17, .inl (cI, 20, .inl (fun _ => 0))), (q18, .inl (cI, 4096, .inl (fun _ => 0))), (q19, .inl (cI, 4096, .inl (fun _ => 0))), (q20, .inl (cI, 10752, .inl (fun _ => 0)))]) e_X11_init_176 fl_X11_86 ff_X11_29 lk_X11_86 rfl rfl 0 rfl (Nat.le_of_ble_eq_true rfl) rfl ?_
  refine ck_aload_n 0 rfl e_X11_init_179 ?_
  refine ck_sipush (v := (2560 : Int32)) (by decide +kernel) e_X11_init_180 ?_
  refine ck_newi (N := 2560) e_X11_init_183 aw_clsI (by decide) (by decide +kernel) (by decide) (Nat.le_of_ble_eq_true rfl) (Nat.le_of_ble_eq_true rfl) (fun q21 => ?_)
  refine ck_eq (ws' := [(h0, .inr (11, [.int 0, .int (1 : Int32), .int 0, .ref q0, .ref q1, .ref q2, .ref q3, .ref q4, .int 0, .int 0, .ref q5, .int 0, .int 0, .ref q6, .ref q7, .ref q8, .ref q9, .int 0, .ref q10, .ref q11, .ref q12, .ref q13, .ref q14, .int 0, .ref q15, .ref q16, .ref q17, .ref q18, .ref q19, .ref q20, .null])), (q0, .inl (cI, 20, .inl (fun _ => 0))), (q1, .inl (cI, 20, .inl (fun _ => 0))), (q2, .inl (cI, 20, .inl (fun _ => 0))), (q3, .inl (cI, 20, .inl (fun _ => 0))), (q4, .inl (cI, 20, .inl (fun _ => 0))), (q5, .inl (cI, 9, .inl (fun _ => 0))), (q6, .inl (cI, 5, .inl (fun _ => 0))), (q7, .inl (cI, 9, .inl (fun _ => 0))), (q8, .inl (cI, 18, .inl (fun _ => 0))), (q9, .inl (cI, 20, .inl (fun _ => 0))), (q10, .inl (cI, 20, .inl (fun _ => 0))), (q11, .inl (cI, 9, .inl (fun _ => 0))), (q12, .inl (cI, 20, .inl (fun _ => 0))), (q13, .inl (cI, 20, .inl (fun _ => 0))), (q14, .inl (cI, 9, .inl (fun _ => 0))), (q15, .inl (cI, 10, .inl (fun _ => 0))), (q16, .inl (cL, 10, .inr (.inl (fun _ => 0)))), (q17, .inl (cI, 20, .inl (fun _ => 0))), (q18, .inl (cI, 4096, .inl (fun _ => 0))), (q19, .inl (cI, 4096, .inl (fun _ => 0))), (q20, .inl (cI, 10752, .inl (fun _ => 0))), (q21, .inl (cI, 2560, .inl (fun _ => 0)))]) rfl ?_
  refine ck_widen (k := 22) (n := 21783) (by omega) (by omega) ?_
  refine ck_putF (ws' := [(h0, .inr (11, [.int 0, .int (1 : Int32), .int 0, .ref q0, .ref q1, .ref q2, .ref q3, .ref q4, .int 0, .int 0, .ref q5, .int 0, .int 0, .ref q6, .ref q7, .ref q8, .ref q9, .int 0, .ref q10, .ref q11, .ref q12, .ref q13, .ref q14, .int 0, .ref q15, .ref q16, .ref q17, .ref q18, .ref q19, .ref q20, .ref q21])), (q0, .inl (cI, 20, .inl (fun _ => 0))), (q1, .inl (cI, 20, .inl (fun _ => 0))), (q2, .inl (cI, 20, .inl (fun _ => 0))), (q3, .inl (cI, 20, .inl (fun _ => 0))), (q4, .inl (cI, 20, .inl (fun _ => 0))), (q5, .inl (cI, 9, .inl (fun _ => 0))), (q6, .inl (cI, 5, .inl (fun _ => 0))), (q7, .inl (cI, 9, .inl (fun _ => 0))), (q8, .inl (cI, 18, .inl (fun _ => 0))), (q9, .inl (cI, 20, .inl (fun _ => 0))), (q10, .inl (cI, 20, .inl (fun _ => 0))), (q11, .inl (cI, 9, .inl (fun _ => 0))), (q12, .inl (cI, 20, .inl (fun _ => 0))), (q13, .inl (cI, 20, .inl (fun _ => 0))), (q14, .inl (cI, 9, .inl (fun _ => 0))), (q15, .inl (cI, 10, .inl (fun _ => 0))), (q16, .inl (cL, 10, .inr (.inl (fun _ => 0)))), (q17, .inl (cI, 20, .inl (fun _ => 0))), (q18, .inl (cI, 4096, .inl (fun _ => 0))), (q19, .inl (cI, 4096, .inl (fun _ => 0))), (q20, .inl (cI, 10752, .inl (fun _ => 0))), (q21, .inl (cI, 2560, .inl (fun _ => 0)))]) e_X11_init_185 fl_X11_89 ff_X11_30 lk_X11_89 rfl rfl 0 rfl (Nat.le_of_ble_eq_true rfl) rfl ?_
  exact ck_vret (fun i => [q0, q1, q2, q3, q4, q5, q6, q7, q8, q9, q10, q11, q12, q13, q14, q15, q16, q17, q18, q19, q20, q21].getD i 0) e_X11_init_188 rfl [0, 1, 2, 3, 4, 5, 6, 7, 8, 9, 10, 11, 12, 13, 14, 15, 16, 17, 18, 19, 20, 21, 22] (by decide) rfl rfl
