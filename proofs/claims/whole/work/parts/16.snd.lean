theorem e_X11_indexOf_0 : kk_d cX11_indexOf 0 (.aload_n 0) 1 1 := ⟨by decide +kernel, rfl⟩
theorem e_X11_indexOf_1 : kk_d cX11_indexOf 1 (.iload_n 1) 1 2 := ⟨by decide +kernel, rfl⟩
theorem e_X11_indexOf_2 : kk_d cX11_indexOf 2 (.invokevirtual 124) 3 5 := ⟨by decide +kernel, rfl⟩
theorem e_X11_indexOf_5 : kk_d cX11_indexOf 5 (.istore_n 2) 1 6 := ⟨by decide +kernel, rfl⟩
theorem e_X11_indexOf_6 : kk_d cX11_indexOf 6 (.aload_n 0) 1 7 := ⟨by decide +kernel, rfl⟩
theorem e_X11_indexOf_7 : kk_d cX11_indexOf 7 (.iload_n 1) 1 8 := ⟨by decide +kernel, rfl⟩
theorem e_X11_indexOf_8 : kk_d cX11_indexOf 8 (.iload_n 2) 1 9 := ⟨by decide +kernel, rfl⟩
theorem e_X11_indexOf_9 : kk_d cX11_indexOf 9 (.invokevirtual 247) 3 12 := ⟨by decide +kernel, rfl⟩
theorem e_X11_indexOf_12 : kk_dj cX11_indexOf 12 (.ifCond .eq 7) 3 (7) 15 19 := ⟨by decide +kernel, rfl, by decide⟩
theorem e_X11_indexOf_22 : kk_d cX11_indexOf 22 .ireturn 1 23 := ⟨by decide +kernel, rfl⟩
theorem e_X11_indexOf_19 : kk_d cX11_indexOf 19 (.iload_n 2) 1 20 := ⟨by decide +kernel, rfl⟩
theorem e_X11_indexOf_20 : kk_d cX11_indexOf 20 (.iconst 1) 1 21 := ⟨by decide +kernel, rfl⟩
theorem e_X11_indexOf_21 : kk_d cX11_indexOf 21 .iadd 1 22 := ⟨by decide +kernel, rfl⟩
theorem e_X11_indexOf_15 : kk_d cX11_indexOf 15 (.iload_n 2) 1 16 := ⟨by decide +kernel, rfl⟩
theorem e_X11_indexOf_16 : kk_dj cX11_indexOf 16 (.goto 6) 3 (6) 19 22 := ⟨by decide +kernel, rfl, by decide⟩
set_option maxRecDepth 4000 in
theorem s_X11_indexOf (Z : kk_Z) (v1 : Int32) (σ : kk_St) (Q : Int32 → kk_St → Prop) (h : f_X11_indexOf v1 σ Q) : kk_M Z sh_M yX11_indexOf cX11_indexOf 3 (some .int) (kk_R 8) [.ref (Z.2.1 0), .int v1] σ (kk_Qi Z sh_M Q) := by
  unfold f_X11_indexOf at h
  refine kk_met (own := RX11) (by decide) rfl (Nat.le_of_ble_eq_true rfl) rfl ?_
  refine kk_aload_n 0 rfl e_X11_indexOf_0 ?_
  refine kk_iload_n 1 rfl e_X11_indexOf_1 ?_
  refine kk_callVip (As := [.int v1]) (rest := []) e_X11_indexOf_2 ml_X11_124 ⟨_, _, _, _, rfl, rfl⟩ rfl (kk_fitR (by decide) (by decide)) (Nat.le_of_ble_eq_true rfl) rfl (s_X11_degreeOf Z v1 σ _ h) (fun r_1 h => ?_)
  refine kk_istore_n (lv' := [(2, .int r_1), (0, .ref (Z.2.1 0)), (1, .int v1)]) e_X11_indexOf_5 rfl (by decide) rfl ?_
  refine kk_aload_n 1 rfl e_X11_indexOf_6 ?_
  refine kk_iload_n 2 rfl e_X11_indexOf_7 ?_
  refine kk_iload_n 0 rfl e_X11_indexOf_8 ?_
  refine kk_callVi (As := [.int v1, .int r_1]) (rest := []) e_X11_indexOf_9 ml_X11_247 ⟨_, _, _, _, rfl, rfl⟩ rfl (kk_fitR (by decide) (by decide)) (Nat.le_of_ble_eq_true rfl) rfl (s_X11_laysFirst Z v1 r_1 σ _ h) (fun r_2 σ_3 h => ?_)
  refine kk_jW1 (P := fun (t_4 : Int32) => KK Z sh_M RX11 cX11_indexOf 3 (some .int) (kk_R 8) (kk_Qi Z sh_M Q) 22 [] [.int t_4] σ_3) h ?_ ?_
  · intro t_4 h
    exact kk_iret e_X11_indexOf_22 h
  · intro J_5 hJ_5 h
    refine kk_if_eq e_X11_indexOf_12 (fun c_6 => ?_) (fun c_6 => ?_)
    · replace h := h.1 c_6
      refine kk_iload_n 0 rfl e_X11_indexOf_19 ?_
      refine kk_iconst ic_1 e_X11_indexOf_20 ?_
      refine kk_iadd e_X11_indexOf_21 ?_
      exact kk_sub [] rfl (hJ_5 (r_1 + (1 : Int32)) h)
    · replace h := h.2 c_6
      refine kk_iload_n 0 rfl e_X11_indexOf_15 ?_
      refine kk_goto e_X11_indexOf_16 ?_
      exact kk_sub [] rfl (hJ_5 r_1 h)
theorem e_X11_index_0 : kk_d cX11_index 0 (.aload_n 0) 1 1 := ⟨by decide +kernel, rfl⟩
theorem e_X11_index_1 : kk_d cX11_index 1 (.aload_n 0) 1 2 := ⟨by decide +kernel, rfl⟩
theorem e_X11_index_2 : kk_d cX11_index 2 (.invokevirtual 120) 3 5 := ⟨by decide +kernel, rfl⟩
theorem e_X11_index_5 : kk_d cX11_index 5 (.invokevirtual 250) 3 8 := ⟨by decide +kernel, rfl⟩
theorem e_X11_index_8 : kk_d cX11_index 8 .ireturn 1 9 := ⟨by decide +kernel, rfl⟩
set_option maxRecDepth 4000 in
theorem s_X11_index (Z : kk_Z) (σ : kk_St) (Q : Int32 → kk_St → Prop) (h : f_X11_index σ Q) : kk_M Z sh_M yX11_index cX11_index 1 (some .int) (kk_R 9) [.ref (Z.2.1 0)] σ (kk_Qi Z sh_M Q) := by
  unfold f_X11_index at h
  refine kk_met (own := RX11) (by decide) rfl (Nat.le_of_ble_eq_true rfl) rfl ?_
  refine kk_aload_n 0 rfl e_X11_index_0 ?_
  refine kk_aload_n 0 rfl e_X11_index_1 ?_
  refine kk_callVip (As := []) (rest := [.ref (Z.2.1 0)]) e_X11_index_2 ml_X11_120 ⟨_, _, _, _, rfl, rfl⟩ rfl (kk_fitR (by decide) (by decide)) (Nat.le_of_ble_eq_true rfl) rfl (s_X11_allLines Z σ _ h) (fun r_1 h => ?_)
  refine kk_callVi (As := [.int r_1]) (rest := []) e_X11_index_5 ml_X11_250 ⟨_, _, _, _, rfl, rfl⟩ rfl (kk_fitR (by decide) (by decide)) (Nat.le_of_ble_eq_true rfl) rfl (s_X11_indexOf Z r_1 σ _ h) (fun r_2 σ_3 h => ?_)
  exact kk_iret e_X11_index_8 h
theorem e_X11_critical_0 : kk_d cX11_critical 0 (.aload_n 0) 1 1 := ⟨by decide +kernel, rfl⟩
theorem e_X11_critical_1 : kk_d cX11_critical 1 (.invokevirtual 253) 3 4 := ⟨by decide +kernel, rfl⟩
theorem e_X11_critical_4 : kk_d cX11_critical 4 (.istore_n 1) 1 5 := ⟨by decide +kernel, rfl⟩
theorem e_X11_critical_5 : kk_d cX11_critical 5 (.iconst 0) 1 6 := ⟨by decide +kernel, rfl⟩
theorem e_X11_critical_6 : kk_d cX11_critical 6 (.istore_n 2) 1 7 := ⟨by decide +kernel, rfl⟩
theorem e_X11_critical_7 : kk_d cX11_critical 7 (.iconst 0) 1 8 := ⟨by decide +kernel, rfl⟩
theorem e_X11_critical_8 : kk_d cX11_critical 8 (.istore_n 3) 1 9 := ⟨by decide +kernel, rfl⟩
theorem e_X11_critical_9 : kk_d cX11_critical 9 (.iload_n 3) 1 10 := ⟨by decide +kernel, rfl⟩
theorem e_X11_critical_10 : kk_d cX11_critical 10 (.aload_n 0) 1 11 := ⟨by decide +kernel, rfl⟩
theorem e_X11_critical_11 : kk_d cX11_critical 11 (.getfield 96) 3 14 := ⟨by decide +kernel, rfl⟩
theorem e_X11_critical_14 : kk_dj cX11_critical 14 (.if_icmp .ge 33) 3 (33) 17 47 := ⟨by decide +kernel, rfl, by decide⟩
theorem e_X11_critical_47 : kk_d cX11_critical 47 (.iload_n 2) 1 48 := ⟨by decide +kernel, rfl⟩
theorem e_X11_critical_48 : kk_d cX11_critical 48 .ireturn 1 49 := ⟨by decide +kernel, rfl⟩
theorem e_X11_critical_17 : kk_d cX11_critical 17 (.aload_n 0) 1 18 := ⟨by decide +kernel, rfl⟩
theorem e_X11_critical_18 : kk_d cX11_critical 18 (.aload_n 0) 1 19 := ⟨by decide +kernel, rfl⟩
theorem e_X11_critical_19 : kk_d cX11_critical 19 (.invokevirtual 120) 3 22 := ⟨by decide +kernel, rfl⟩
theorem e_X11_critical_22 : kk_d cX11_critical 22 (.iconst 1) 1 23 := ⟨by decide +kernel, rfl⟩
theorem e_X11_critical_23 : kk_d cX11_critical 23 (.iload_n 3) 1 24 := ⟨by decide +kernel, rfl⟩
theorem e_X11_critical_24 : kk_d cX11_critical 24 .ishl 1 25 := ⟨by decide +kernel, rfl⟩
theorem e_X11_critical_25 : kk_d cX11_critical 25 (.iconst (-1)) 1 26 := ⟨by decide +kernel, rfl⟩
theorem e_X11_critical_26 : kk_d cX11_critical 26 .ixor 1 27 := ⟨by decide +kernel, rfl⟩
theorem e_X11_critical_27 : kk_d cX11_critical 27 .iand 1 28 := ⟨by decide +kernel, rfl⟩
theorem e_X11_critical_28 : kk_d cX11_critical 28 (.invokevirtual 250) 3 31 := ⟨by decide +kernel, rfl⟩
theorem e_X11_critical_31 : kk_d cX11_critical 31 (.iload_n 1) 1 32 := ⟨by decide +kernel, rfl⟩
theorem e_X11_critical_32 : kk_dj cX11_critical 32 (.if_icmp .ge 9) 3 (9) 35 41 := ⟨by decide +kernel, rfl, by decide⟩
theorem e_X11_critical_41 : kk_d cX11_critical 41 (.iinc 3 1) 3 44 := ⟨by decide +kernel, rfl⟩
theorem e_X11_critical_44 : kk_dj cX11_critical 44 (.goto (-35)) 3 (-35) 47 9 := ⟨by decide +kernel, rfl, by decide⟩
theorem e_X11_critical_35 : kk_d cX11_critical 35 (.iload_n 2) 1 36 := ⟨by decide +kernel, rfl⟩
theorem e_X11_critical_36 : kk_d cX11_critical 36 (.iconst 1) 1 37 := ⟨by decide +kernel, rfl⟩
theorem e_X11_critical_37 : kk_d cX11_critical 37 (.iload_n 3) 1 38 := ⟨by decide +kernel, rfl⟩
theorem e_X11_critical_38 : kk_d cX11_critical 38 .ishl 1 39 := ⟨by decide +kernel, rfl⟩
theorem e_X11_critical_39 : kk_d cX11_critical 39 .ior 1 40 := ⟨by decide +kernel, rfl⟩
theorem e_X11_critical_40 : kk_d cX11_critical 40 (.istore_n 2) 1 41 := ⟨by decide +kernel, rfl⟩
set_option maxRecDepth 4000 in
theorem s_X11_critical (Z : kk_Z) (σ : kk_St) (Q : Int32 → kk_St → Prop) (h : f_X11_critical σ Q) : kk_M Z sh_M yX11_critical cX11_critical 4 (some .int) (kk_R 10) [.ref (Z.2.1 0)] σ (kk_Qi Z sh_M Q) := by
  unfold f_X11_critical at h
  refine kk_met (own := RX11) (by decide) rfl (Nat.le_of_ble_eq_true rfl) rfl ?_
  refine kk_aload_n 0 rfl e_X11_critical_0 ?_
  refine kk_callVi (As := []) (rest := []) e_X11_critical_1 ml_X11_253 ⟨_, _, _, _, rfl, rfl⟩ rfl (kk_fitR (by decide) (by decide)) (Nat.le_of_ble_eq_true rfl) rfl (s_X11_index Z σ _ h) (fun r_1 σ_2 h => ?_)
  refine kk_istore_n (lv' := [(1, .int r_1), (0, .ref (Z.2.1 0))]) e_X11_critical_4 rfl (by decide) rfl ?_
  refine kk_iconst ic_0 e_X11_critical_5 ?_
  refine kk_istore_n (lv' := [(2, .int (0 : Int32)), (1, .int r_1), (0, .ref (Z.2.1 0))]) e_X11_critical_6 rfl (by decide) rfl ?_
  refine kk_iconst ic_0 e_X11_critical_7 ?_
  refine kk_istore_n (lv' := [(3, .int (0 : Int32)), (2, .int (0 : Int32)), (1, .int r_1), (0, .ref (Z.2.1 0))]) e_X11_critical_8 rfl (by decide) rfl ?_
  refine kk_sub [3, 2, 1, 0] rfl ?_
  refine kk_lpW3 (P := fun (v2_3 : Int32) (v3_4 : Int32) (σ_5 : kk_St) => KK Z sh_M RX11 cX11_critical 4 (some .int) (kk_R 10) (kk_Qi Z sh_M Q) 9 [(0, .ref (Z.2.1 0)), (1, .int r_1), (2, .int v2_3), (3, .int v3_4)] [] σ_5) ?_ h
  intro rec_6 hrec_6 v2_3 v3_4 σ_5 h
  refine kk_iload_n 3 rfl e_X11_critical_9 ?_
  refine kk_aload_n 0 rfl e_X11_critical_10 ?_
  refine kk_geti e_X11_critical_11 fl_X11_96 rfl rfl ?_
  refine kk_icmp_ge e_X11_critical_14 (fun c_14 => ?_) (fun c_14 => ?_)
  · replace h := h.1 c_14
    refine kk_iload_n 2 rfl e_X11_critical_47 ?_
    exact kk_iret e_X11_critical_48 h
  · replace h := h.2 c_14
    refine kk_aload_n 0 rfl e_X11_critical_17 ?_
    refine kk_aload_n 0 rfl e_X11_critical_18 ?_
    refine kk_callVip (As := []) (rest := [.ref (Z.2.1 0)]) e_X11_critical_19 ml_X11_120 ⟨_, _, _, _, rfl, rfl⟩ rfl (kk_fitR (by decide) (by decide)) (Nat.le_of_ble_eq_true rfl) rfl (s_X11_allLines Z σ_5 _ h) (fun r_7 h => ?_)
    refine kk_iconst ic_1 e_X11_critical_22 ?_
    refine kk_iload_n 3 rfl e_X11_critical_23 ?_
    refine kk_ishl e_X11_critical_24 ?_
    refine kk_iconst ic_m1 e_X11_critical_25 ?_
    refine kk_ixor e_X11_critical_26 ?_
    refine kk_iand e_X11_critical_27 ?_
    refine kk_callVi (As := [.int (r_7 &&& (((1 : Int32) <<< (v3_4 &&& 31)) ^^^ (-1 : Int32)))]) (rest := []) e_X11_critical_28 ml_X11_250 ⟨_, _, _, _, rfl, rfl⟩ rfl (kk_fitR (by decide) (by decide)) (Nat.le_of_ble_eq_true rfl) rfl (s_X11_indexOf Z (r_7 &&& (((1 : Int32) <<< (v3_4 &&& 31)) ^^^ (-1 : Int32))) σ_5 _ h) (fun r_8 σ_9 h => ?_)
    refine kk_iload_n 1 rfl e_X11_critical_31 ?_
    refine kk_jW1 (P := fun (v2_10 : Int32) => KK Z sh_M RX11 cX11_critical 4 (some .int) (kk_R 10) (kk_Qi Z sh_M Q) 41 [(0, .ref (Z.2.1 0)), (1, .int r_1), (2, .int v2_10), (3, .int v3_4)] [] σ_9) h ?_ ?_
    · intro v2_10 h
      refine kk_iinc (lv' := [(3, .int (v3_4 + (1 : Int32))), (0, .ref (Z.2.1 0)), (1, .int r_1), (2, .int v2_10)]) e_X11_critical_41 (j := 3) rfl (ii_1 v3_4) (by decide) rfl ?_
      refine kk_goto e_X11_critical_44 ?_
      exact kk_sub [1, 2, 3, 0] rfl (hrec_6 v2_10 (v3_4 + (1 : Int32)) σ_9 h)
    · intro J_11 hJ_11 h
      refine kk_icmp_ge e_X11_critical_32 (fun c_13 => ?_) (fun c_13 => ?_)
      · replace h := h.1 c_13
        exact kk_sub [0, 1, 2, 3] rfl (hJ_11 v2_3 h)
      · replace h := h.2 c_13
        refine kk_iload_n 2 rfl e_X11_critical_35 ?_
        refine kk_iconst ic_1 e_X11_critical_36 ?_
        refine kk_iload_n 3 rfl e_X11_critical_37 ?_
        refine kk_ishl e_X11_critical_38 ?_
        refine kk_ior e_X11_critical_39 ?_
        refine kk_topi (fun v2_12 ev2_12 => ?_)
        replace h := h v2_12 ev2_12
        refine kk_istore_n (lv' := [(2, .int v2_12), (0, .ref (Z.2.1 0)), (1, .int r_1), (3, .int v3_4)]) e_X11_critical_40 rfl (by decide) rfl ?_
        exact kk_sub [1, 2, 0, 3] rfl (hJ_11 v2_12 h)
theorem e_X11_flips_0 : kk_d cX11_flips 0 (.iconst 0) 1 1 := ⟨by decide +kernel, rfl⟩
theorem e_X11_flips_1 : kk_d cX11_flips 1 (.istore 4) 2 3 := ⟨by decide +kernel, rfl⟩
theorem e_X11_flips_3 : kk_d cX11_flips 3 (.iload 4) 2 5 := ⟨by decide +kernel, rfl⟩
theorem e_X11_flips_5 : kk_d cX11_flips 5 (.bipush 20) 2 7 := ⟨by decide +kernel, rfl⟩
theorem e_X11_flips_7 : kk_dj cX11_flips 7 (.if_icmp .ge 30) 3 (30) 10 37 := ⟨by decide +kernel, rfl, by decide⟩
theorem e_X11_flips_37 : kk_d cX11_flips 37 .return_ 1 38 := ⟨by decide +kernel, rfl⟩
theorem e_X11_flips_10 : kk_d cX11_flips 10 (.iload_n 1) 1 11 := ⟨by decide +kernel, rfl⟩
theorem e_X11_flips_11 : kk_d cX11_flips 11 (.iload 4) 2 13 := ⟨by decide +kernel, rfl⟩
theorem e_X11_flips_13 : kk_d cX11_flips 13 (.invokestatic 11) 3 16 := ⟨by decide +kernel, rfl⟩
theorem e_X11_flips_16 : kk_dj cX11_flips 16 (.ifCond .eq 15) 3 (15) 19 31 := ⟨by decide +kernel, rfl, by decide⟩
theorem e_X11_flips_31 : kk_d cX11_flips 31 (.iinc 4 1) 3 34 := ⟨by decide +kernel, rfl⟩
theorem e_X11_flips_34 : kk_dj cX11_flips 34 (.goto (-31)) 3 (-31) 37 3 := ⟨by decide +kernel, rfl, by decide⟩
theorem e_X11_flips_19 : kk_d cX11_flips 19 (.aload_n 0) 1 20 := ⟨by decide +kernel, rfl⟩
theorem e_X11_flips_20 : kk_d cX11_flips 20 (.iload 4) 2 22 := ⟨by decide +kernel, rfl⟩
theorem e_X11_flips_22 : kk_d cX11_flips 22 (.iload_n 2) 1 23 := ⟨by decide +kernel, rfl⟩
theorem e_X11_flips_23 : kk_d cX11_flips 23 (.iload_n 3) 1 24 := ⟨by decide +kernel, rfl⟩
theorem e_X11_flips_24 : kk_d cX11_flips 24 .iadd 1 25 := ⟨by decide +kernel, rfl⟩
theorem e_X11_flips_25 : kk_d cX11_flips 25 (.aload_n 0) 1 26 := ⟨by decide +kernel, rfl⟩
theorem e_X11_flips_26 : kk_d cX11_flips 26 (.iload 4) 2 28 := ⟨by decide +kernel, rfl⟩
theorem e_X11_flips_28 : kk_d cX11_flips 28 .iaload 1 29 := ⟨by decide +kernel, rfl⟩
theorem e_X11_flips_29 : kk_d cX11_flips 29 .isub 1 30 := ⟨by decide +kernel, rfl⟩
theorem e_X11_flips_30 : kk_d cX11_flips 30 .iastore 1 31 := ⟨by decide +kernel, rfl⟩
set_option maxRecDepth 4000 in
theorem s_X11_flips (Z : kk_Z) (a0 : Nat) (n0 : Nat) (v1 : Int32) (v2 : Int32) (v3 : Int32) (σ : kk_St) (Q : kk_St → Prop) (ha0 : sh_M[a0]? = some (.inl (false, n0))) (h : f_X11_flips a0 n0 v1 v2 v3 σ Q) : kk_M Z sh_M yX11_flips cX11_flips 5 none (kk_R 3) [.ref (Z.2.1 a0), .int v1, .int v2, .int v3] σ (kk_Qv Z sh_M Q) := by
  unfold f_X11_flips at h
  refine kk_met (own := RX11) (by decide) rfl (Nat.le_of_ble_eq_true rfl) rfl ?_
  refine kk_iconst ic_0 e_X11_flips_0 ?_
  refine kk_istore (lv' := [(4, .int (0 : Int32)), (0, .ref (Z.2.1 a0)), (1, .int v1), (2, .int v2), (3, .int v3)]) e_X11_flips_1 (by decide) rfl ?_
  refine kk_sub [1, 2, 3, 4, 0] rfl ?_
  refine kk_lpW2 (P := fun (v4_1 : Int32) (σ_2 : kk_St) => KK Z sh_M RX11 cX11_flips 5 none (kk_R 3) (kk_Qv Z sh_M Q) 3 [(0, .ref (Z.2.1 a0)), (1, .int v1), (2, .int v2), (3, .int v3), (4, .int v4_1)] [] σ_2) ?_ h
  intro rec_3 hrec_3 v4_1 σ_2 h
  refine kk_iload 4 rfl e_X11_flips_3 ?_
  refine kk_bipush bp_20 e_X11_flips_5 ?_
  refine kk_icmp_ge e_X11_flips_7 (fun c_9 => ?_) (fun c_9 => ?_)
  · replace h := h.1 c_9
    exact kk_vret e_X11_flips_37 h
  · replace h := h.2 c_9
    refine kk_iload_n 1 rfl e_X11_flips_10 ?_
    refine kk_iload 4 rfl e_X11_flips_11 ?_
    refine kk_callSip (As := [.int v1, .int v4_1]) (rest := []) e_X11_flips_13 ml_X11_11 rfl (kk_fitR (by decide) (by decide)) (Nat.le_of_ble_eq_true rfl) rfl (s_X11_has Z v1 v4_1 σ_2 _ h) (fun r_4 h => ?_)
    refine kk_jW1 (P := fun (σ_5 : kk_St) => KK Z sh_M RX11 cX11_flips 5 none (kk_R 3) (kk_Qv Z sh_M Q) 31 [(0, .ref (Z.2.1 a0)), (1, .int v1), (2, .int v2), (3, .int v3), (4, .int v4_1)] [] σ_5) h ?_ ?_
    · intro σ_5 h
      refine kk_iinc (lv' := [(4, .int (v4_1 + (1 : Int32))), (0, .ref (Z.2.1 a0)), (1, .int v1), (2, .int v2), (3, .int v3)]) e_X11_flips_31 (j := 4) rfl (ii_1 v4_1) (by decide) rfl ?_
      refine kk_goto e_X11_flips_34 ?_
      exact kk_sub [1, 2, 3, 4, 0] rfl (hrec_3 (v4_1 + (1 : Int32)) σ_5 h)
    · intro J_6 hJ_6 h
      refine kk_if_eq e_X11_flips_16 (fun c_8 => ?_) (fun c_8 => ?_)
      · replace h := h.1 c_8
        exact kk_sub [0, 1, 2, 3, 4] rfl (hJ_6 σ_2 h)
      · replace h := h.2 c_8
        refine kk_aload_n 0 rfl e_X11_flips_19 ?_
        refine kk_iload 4 rfl e_X11_flips_20 ?_
        refine kk_iload_n 2 rfl e_X11_flips_22 ?_
        refine kk_iload_n 3 rfl e_X11_flips_23 ?_
        refine kk_iadd e_X11_flips_24 ?_
        refine kk_aload_n 0 rfl e_X11_flips_25 ?_
        refine kk_iload 4 rfl e_X11_flips_26 ?_
        refine kk_iald e_X11_flips_28 ha0 h.1 ?_
        replace h := h.2
        refine kk_isub e_X11_flips_29 ?_
        refine kk_iast e_X11_flips_30 ha0 h.1 ?_
        replace h := h.2
        refine kk_tops (fun σ_7 eσ_7 => ?_)
        replace h := h σ_7 eσ_7
        exact kk_sub [0, 1, 2, 3, 4] rfl (hJ_6 σ_7 h)
theorem e_X11_longerChain_0 : kk_d cX11_longerChain 0 (.iconst 0) 1 1 := ⟨by decide +kernel, rfl⟩
theorem e_X11_longerChain_1 : kk_d cX11_longerChain 1 (.istore_n 3) 1 2 := ⟨by decide +kernel, rfl⟩
theorem e_X11_longerChain_2 : kk_d cX11_longerChain 2 (.iload_n 3) 1 3 := ⟨by decide +kernel, rfl⟩
theorem e_X11_longerChain_3 : kk_d cX11_longerChain 3 (.aload_n 0) 1 4 := ⟨by decide +kernel, rfl⟩
theorem e_X11_longerChain_4 : kk_d cX11_longerChain 4 (.getfield 96) 3 7 := ⟨by decide +kernel, rfl⟩
theorem e_X11_longerChain_7 : kk_dj cX11_longerChain 7 (.if_icmp .ge 70) 3 (70) 10 77 := ⟨by decide +kernel, rfl, by decide⟩
theorem e_X11_longerChain_77 : kk_d cX11_longerChain 77 (.iconst 0) 1 78 := ⟨by decide +kernel, rfl⟩
theorem e_X11_longerChain_78 : kk_d cX11_longerChain 78 .ireturn 1 79 := ⟨by decide +kernel, rfl⟩
theorem e_X11_longerChain_10 : kk_d cX11_longerChain 10 (.aload_n 0) 1 11 := ⟨by decide +kernel, rfl⟩
theorem e_X11_longerChain_11 : kk_d cX11_longerChain 11 (.getfield 31) 3 14 := ⟨by decide +kernel, rfl⟩
theorem e_X11_longerChain_14 : kk_d cX11_longerChain 14 (.iload_n 3) 1 15 := ⟨by decide +kernel, rfl⟩
theorem e_X11_longerChain_15 : kk_d cX11_longerChain 15 .iaload 1 16 := ⟨by decide +kernel, rfl⟩
theorem e_X11_longerChain_16 : kk_d cX11_longerChain 16 (.iload_n 1) 1 17 := ⟨by decide +kernel, rfl⟩
theorem e_X11_longerChain_17 : kk_dj cX11_longerChain 17 (.if_icmp .eq 16) 3 (16) 20 33 := ⟨by decide +kernel, rfl, by decide⟩
theorem e_X11_longerChain_71 : kk_d cX11_longerChain 71 (.iinc 3 1) 3 74 := ⟨by decide +kernel, rfl⟩
theorem e_X11_longerChain_74 : kk_dj cX11_longerChain 74 (.goto (-72)) 3 (-72) 77 2 := ⟨by decide +kernel, rfl, by decide⟩
theorem e_X11_longerChain_33 : kk_d cX11_longerChain 33 (.aload_n 0) 1 34 := ⟨by decide +kernel, rfl⟩
theorem e_X11_longerChain_34 : kk_d cX11_longerChain 34 (.aload_n 0) 1 35 := ⟨by decide +kernel, rfl⟩
theorem e_X11_longerChain_35 : kk_d cX11_longerChain 35 (.getfield 31) 3 38 := ⟨by decide +kernel, rfl⟩
theorem e_X11_longerChain_38 : kk_d cX11_longerChain 38 (.aload_n 0) 1 39 := ⟨by decide +kernel, rfl⟩
theorem e_X11_longerChain_39 : kk_d cX11_longerChain 39 (.getfield 24) 3 42 := ⟨by decide +kernel, rfl⟩
theorem e_X11_longerChain_42 : kk_d cX11_longerChain 42 (.iload_n 3) 1 43 := ⟨by decide +kernel, rfl⟩
theorem e_X11_longerChain_43 : kk_d cX11_longerChain 43 .iaload 1 44 := ⟨by decide +kernel, rfl⟩
theorem e_X11_longerChain_44 : kk_d cX11_longerChain 44 (.iload_n 1) 1 45 := ⟨by decide +kernel, rfl⟩
theorem e_X11_longerChain_45 : kk_d cX11_longerChain 45 (.iload_n 2) 1 46 := ⟨by decide +kernel, rfl⟩
theorem e_X11_longerChain_46 : kk_d cX11_longerChain 46 (.invokevirtual 152) 3 49 := ⟨by decide +kernel, rfl⟩
theorem e_X11_longerChain_49 : kk_d cX11_longerChain 49 (.istore 4) 2 51 := ⟨by decide +kernel, rfl⟩
theorem e_X11_longerChain_51 : kk_d cX11_longerChain 51 (.aload_n 0) 1 52 := ⟨by decide +kernel, rfl⟩
theorem e_X11_longerChain_52 : kk_d cX11_longerChain 52 (.iload 4) 2 54 := ⟨by decide +kernel, rfl⟩
theorem e_X11_longerChain_54 : kk_d cX11_longerChain 54 (.iload_n 1) 1 55 := ⟨by decide +kernel, rfl⟩
theorem e_X11_longerChain_55 : kk_d cX11_longerChain 55 (.invokevirtual 163) 3 58 := ⟨by decide +kernel, rfl⟩
theorem e_X11_longerChain_58 : kk_d cX11_longerChain 58 (.aload_n 0) 1 59 := ⟨by decide +kernel, rfl⟩
theorem e_X11_longerChain_59 : kk_d cX11_longerChain 59 (.iload 4) 2 61 := ⟨by decide +kernel, rfl⟩
theorem e_X11_longerChain_61 : kk_d cX11_longerChain 61 (.iload_n 2) 1 62 := ⟨by decide +kernel, rfl⟩
theorem e_X11_longerChain_62 : kk_d cX11_longerChain 62 (.invokevirtual 163) 3 65 := ⟨by decide +kernel, rfl⟩
theorem e_X11_longerChain_65 : kk_dj cX11_longerChain 65 (.if_icmp .le 6) 3 (6) 68 71 := ⟨by decide +kernel, rfl, by decide⟩
theorem e_X11_longerChain_68 : kk_d cX11_longerChain 68 (.iload 4) 2 70 := ⟨by decide +kernel, rfl⟩
theorem e_X11_longerChain_70 : kk_d cX11_longerChain 70 .ireturn 1 71 := ⟨by decide +kernel, rfl⟩
theorem e_X11_longerChain_20 : kk_d cX11_longerChain 20 (.aload_n 0) 1 21 := ⟨by decide +kernel, rfl⟩
theorem e_X11_longerChain_21 : kk_d cX11_longerChain 21 (.getfield 31) 3 24 := ⟨by decide +kernel, rfl⟩
theorem e_X11_longerChain_24 : kk_d cX11_longerChain 24 (.iload_n 3) 1 25 := ⟨by decide +kernel, rfl⟩
theorem e_X11_longerChain_25 : kk_d cX11_longerChain 25 .iaload 1 26 := ⟨by decide +kernel, rfl⟩
theorem e_X11_longerChain_26 : kk_d cX11_longerChain 26 (.iload_n 2) 1 27 := ⟨by decide +kernel, rfl⟩
theorem e_X11_longerChain_27 : kk_dj cX11_longerChain 27 (.if_icmp .eq 6) 3 (6) 30 33 := ⟨by decide +kernel, rfl, by decide⟩
theorem e_X11_longerChain_30 : kk_dj cX11_longerChain 30 (.goto 41) 3 (41) 33 71 := ⟨by decide +kernel, rfl, by decide⟩
set_option maxRecDepth 4000 in
theorem s_X11_longerChain (Z : kk_Z) (v1 : Int32) (v2 : Int32) (σ : kk_St) (Q : Int32 → kk_St → Prop) (h : f_X11_longerChain v1 v2 σ Q) : kk_M Z sh_M yX11_longerChain cX11_longerChain 5 (some .int) (kk_R 4) [.ref (Z.2.1 0), .int v1, .int v2] σ (kk_Qi Z sh_M Q) := by
  unfold f_X11_longerChain at h
  refine kk_met (own := RX11) (by decide) rfl (Nat.le_of_ble_eq_true rfl) rfl ?_
  refine kk_iconst ic_0 e_X11_longerChain_0 ?_
  refine kk_istore_n (lv' := [(3, .int (0 : Int32)), (0, .ref (Z.2.1 0)), (1, .int v1), (2, .int v2)]) e_X11_longerChain_1 rfl (by decide) rfl ?_
  refine kk_sub [1, 2, 3, 0] rfl ?_
  refine kk_lpW2 (P := fun (v3_1 : Int32) (σ_2 : kk_St) => KK Z sh_M RX11 cX11_longerChain 5 (some .int) (kk_R 4) (kk_Qi Z sh_M Q) 2 [(0, .ref (Z.2.1 0)), (1, .int v1), (2, .int v2), (3, .int v3_1)] [] σ_2) ?_ h
  intro rec_3 hrec_3 v3_1 σ_2 h
  refine kk_iload_n 3 rfl e_X11_longerChain_2 ?_
  refine kk_aload_n 0 rfl e_X11_longerChain_3 ?_
  refine kk_geti e_X11_longerChain_4 fl_X11_96 rfl rfl ?_
  refine kk_icmp_ge e_X11_longerChain_7 (fun c_14 => ?_) (fun c_14 => ?_)
  · replace h := h.1 c_14
    refine kk_iconst ic_0 e_X11_longerChain_77 ?_
    exact kk_iret e_X11_longerChain_78 h
  · replace h := h.2 c_14
    refine kk_aload_n 0 rfl e_X11_longerChain_10 ?_
    refine kk_getr e_X11_longerChain_11 fl_X11_31 rfl rfl ?_
    refine kk_iload_n 3 rfl e_X11_longerChain_14 ?_
    refine kk_iald e_X11_longerChain_15 rfl h.1 ?_
    replace h := h.2
    refine kk_iload_n 1 rfl e_X11_longerChain_16 ?_
    refine kk_jW1 (P := fun (σ_4 : kk_St) => KK Z sh_M RX11 cX11_longerChain 5 (some .int) (kk_R 4) (kk_Qi Z sh_M Q) 71 [(0, .ref (Z.2.1 0)), (1, .int v1), (2, .int v2), (3, .int v3_1)] [] σ_4) h ?_ ?_
    · intro σ_4 h
      refine kk_iinc (lv' := [(3, .int (v3_1 + (1 : Int32))), (0, .ref (Z.2.1 0)), (1, .int v1), (2, .int v2)]) e_X11_longerChain_71 (j := 3) rfl (ii_1 v3_1) (by decide) rfl ?_
      refine kk_goto e_X11_longerChain_74 ?_
      exact kk_sub [1, 2, 3, 0] rfl (hrec_3 (v3_1 + (1 : Int32)) σ_4 h)
    · intro J_5 hJ_5 h
      refine kk_jW0 (P := KK Z sh_M RX11 cX11_longerChain 5 (some .int) (kk_R 4) (kk_Qi Z sh_M Q) 33 [(0, .ref (Z.2.1 0)), (1, .int v1), (2, .int v2), (3, .int v3_1)] [] σ_2) h ?_ ?_
      · intro h
        refine kk_aload_n 0 rfl e_X11_longerChain_33 ?_
        refine kk_aload_n 0 rfl e_X11_longerChain_34 ?_
        refine kk_getr e_X11_longerChain_35 fl_X11_31 rfl rfl ?_
        refine kk_aload_n 0 rfl e_X11_longerChain_38 ?_
        refine kk_getr e_X11_longerChain_39 fl_X11_24 rfl rfl ?_
        refine kk_iload_n 3 rfl e_X11_longerChain_42 ?_
        refine kk_iald e_X11_longerChain_43 rfl h.1 ?_
        replace h := h.2
        refine kk_iload_n 1 rfl e_X11_longerChain_44 ?_
        refine kk_iload_n 2 rfl e_X11_longerChain_45 ?_
        refine kk_callVi (As := [.ref (Z.2.1 3), .int (kk_rd σ_2 1 v3_1), .int v1, .int v2]) (rest := []) e_X11_longerChain_46 ml_X11_152 ⟨_, _, _, _, rfl, rfl⟩ rfl (kk_fitR (by decide) (by decide)) (Nat.le_of_ble_eq_true rfl) rfl (s_X11_chainIn Z 3 20 (kk_rd σ_2 1 v3_1) v1 v2 σ_2 _ rfl h) (fun r_7 σ_8 h => ?_)
        refine kk_istore (lv' := [(4, .int r_7), (0, .ref (Z.2.1 0)), (1, .int v1), (2, .int v2), (3, .int v3_1)]) e_X11_longerChain_49 (by decide) rfl ?_
        refine kk_aload_n 1 rfl e_X11_longerChain_51 ?_
        refine kk_iload 0 rfl e_X11_longerChain_52 ?_
        refine kk_iload_n 2 rfl e_X11_longerChain_54 ?_
        refine kk_callVip (As := [.int r_7, .int v1]) (rest := []) e_X11_longerChain_55 ml_X11_163 ⟨_, _, _, _, rfl, rfl⟩ rfl (kk_fitR (by decide) (by decide)) (Nat.le_of_ble_eq_true rfl) rfl (s_X11_manyWith Z r_7 v1 σ_8 _ h) (fun r_9 h => ?_)
        refine kk_aload_n 1 rfl e_X11_longerChain_58 ?_
        refine kk_iload 0 rfl e_X11_longerChain_59 ?_
        refine kk_iload_n 3 rfl e_X11_longerChain_61 ?_
        refine kk_callVip (As := [.int r_7, .int v2]) (rest := [.int r_9]) e_X11_longerChain_62 ml_X11_163 ⟨_, _, _, _, rfl, rfl⟩ rfl (kk_fitR (by decide) (by decide)) (Nat.le_of_ble_eq_true rfl) rfl (s_X11_manyWith Z r_7 v2 σ_8 _ h) (fun r_10 h => ?_)
        refine kk_icmp_le e_X11_longerChain_65 (fun c_11 => ?_) (fun c_11 => ?_)
        · replace h := h.1 c_11
          exact kk_sub [1, 2, 3, 4] rfl (hJ_5 σ_8 h)
        · replace h := h.2 c_11
          refine kk_iload 0 rfl e_X11_longerChain_68 ?_
          exact kk_iret e_X11_longerChain_70 h
      · intro J_6 hJ_6 h
        refine kk_icmp_eq e_X11_longerChain_17 (fun c_13 => ?_) (fun c_13 => ?_)
        · replace h := h.1 c_13
          exact kk_sub [0, 1, 2, 3] rfl (hJ_6 h)
        · replace h := h.2 c_13
          refine kk_aload_n 0 rfl e_X11_longerChain_20 ?_
          refine kk_getr e_X11_longerChain_21 fl_X11_31 rfl rfl ?_
          refine kk_iload_n 3 rfl e_X11_longerChain_24 ?_
          refine kk_iald e_X11_longerChain_25 rfl h.1 ?_
          replace h := h.2
          refine kk_iload_n 2 rfl e_X11_longerChain_26 ?_
          refine kk_icmp_eq e_X11_longerChain_27 (fun c_12 => ?_) (fun c_12 => ?_)
          · replace h := h.1 c_12
            exact kk_sub [0, 1, 2, 3] rfl (hJ_6 h)
          · replace h := h.2 c_12
            refine kk_goto e_X11_longerChain_30 ?_
            exact kk_sub [0, 1, 2, 3] rfl (hJ_5 σ_2 h)
theorem e_X11_evens_0 : kk_d cX11_evens 0 (.iconst 0) 1 1 := ⟨by decide +kernel, rfl⟩
theorem e_X11_evens_1 : kk_d cX11_evens 1 (.istore_n 1) 1 2 := ⟨by decide +kernel, rfl⟩
theorem e_X11_evens_2 : kk_d cX11_evens 2 (.iconst 0) 1 3 := ⟨by decide +kernel, rfl⟩
theorem e_X11_evens_3 : kk_d cX11_evens 3 (.istore_n 2) 1 4 := ⟨by decide +kernel, rfl⟩
theorem e_X11_evens_4 : kk_d cX11_evens 4 (.iconst 1) 1 5 := ⟨by decide +kernel, rfl⟩
theorem e_X11_evens_5 : kk_d cX11_evens 5 (.istore_n 3) 1 6 := ⟨by decide +kernel, rfl⟩
theorem e_X11_evens_6 : kk_d cX11_evens 6 (.iload_n 3) 1 7 := ⟨by decide +kernel, rfl⟩
theorem e_X11_evens_7 : kk_d cX11_evens 7 (.aload_n 0) 1 8 := ⟨by decide +kernel, rfl⟩
theorem e_X11_evens_8 : kk_d cX11_evens 8 (.invokevirtual 198) 3 11 := ⟨by decide +kernel, rfl⟩
theorem e_X11_evens_11 : kk_dj cX11_evens 11 (.if_icmp .gt 55) 3 (55) 14 66 := ⟨by decide +kernel, rfl, by decide⟩
theorem e_X11_evens_66 : kk_d cX11_evens 66 (.aload_n 0) 1 67 := ⟨by decide +kernel, rfl⟩
theorem e_X11_evens_67 : kk_d cX11_evens 67 (.aload_n 0) 1 68 := ⟨by decide +kernel, rfl⟩
theorem e_X11_evens_68 : kk_d cX11_evens 68 (.invokevirtual 120) 3 71 := ⟨by decide +kernel, rfl⟩
theorem e_X11_evens_71 : kk_d cX11_evens 71 (.iload_n 1) 1 72 := ⟨by decide +kernel, rfl⟩
theorem e_X11_evens_72 : kk_d cX11_evens 72 (.invokevirtual 163) 3 75 := ⟨by decide +kernel, rfl⟩
theorem e_X11_evens_75 : kk_d cX11_evens 75 (.aload_n 0) 1 76 := ⟨by decide +kernel, rfl⟩
theorem e_X11_evens_76 : kk_d cX11_evens 76 (.aload_n 0) 1 77 := ⟨by decide +kernel, rfl⟩
theorem e_X11_evens_77 : kk_d cX11_evens 77 (.invokevirtual 120) 3 80 := ⟨by decide +kernel, rfl⟩
theorem e_X11_evens_80 : kk_d cX11_evens 80 (.iload_n 2) 1 81 := ⟨by decide +kernel, rfl⟩
theorem e_X11_evens_81 : kk_d cX11_evens 81 (.invokevirtual 163) 3 84 := ⟨by decide +kernel, rfl⟩
theorem e_X11_evens_84 : kk_d cX11_evens 84 (.iconst 2) 1 85 := ⟨by decide +kernel, rfl⟩
theorem e_X11_evens_85 : kk_d cX11_evens 85 .iadd 1 86 := ⟨by decide +kernel, rfl⟩
theorem e_X11_evens_86 : kk_dj cX11_evens 86 (.if_icmp .ge 5) 3 (5) 89 91 := ⟨by decide +kernel, rfl, by decide⟩
theorem e_X11_evens_91 : kk_d cX11_evens 91 (.aload_n 0) 1 92 := ⟨by decide +kernel, rfl⟩
theorem e_X11_evens_92 : kk_d cX11_evens 92 (.getfield 31) 3 95 := ⟨by decide +kernel, rfl⟩
theorem e_X11_evens_95 : kk_d cX11_evens 95 (.aload_n 0) 1 96 := ⟨by decide +kernel, rfl⟩
theorem e_X11_evens_96 : kk_d cX11_evens 96 (.iload_n 1) 1 97 := ⟨by decide +kernel, rfl⟩
theorem e_X11_evens_97 : kk_d cX11_evens 97 (.iload_n 2) 1 98 := ⟨by decide +kernel, rfl⟩
theorem e_X11_evens_98 : kk_d cX11_evens 98 (.invokevirtual 201) 3 101 := ⟨by decide +kernel, rfl⟩
theorem e_X11_evens_101 : kk_d cX11_evens 101 (.iload_n 1) 1 102 := ⟨by decide +kernel, rfl⟩
theorem e_X11_evens_102 : kk_d cX11_evens 102 (.iload_n 2) 1 103 := ⟨by decide +kernel, rfl⟩
theorem e_X11_evens_103 : kk_d cX11_evens 103 (.invokestatic 156) 3 106 := ⟨by decide +kernel, rfl⟩
theorem e_X11_evens_106 : kk_d cX11_evens 106 (.iconst 1) 1 107 := ⟨by decide +kernel, rfl⟩
theorem e_X11_evens_107 : kk_d cX11_evens 107 .ireturn 1 108 := ⟨by decide +kernel, rfl⟩
theorem e_X11_evens_89 : kk_d cX11_evens 89 (.iconst 0) 1 90 := ⟨by decide +kernel, rfl⟩
theorem e_X11_evens_90 : kk_d cX11_evens 90 .ireturn 1 91 := ⟨by decide +kernel, rfl⟩
theorem e_X11_evens_14 : kk_d cX11_evens 14 (.aload_n 0) 1 15 := ⟨by decide +kernel, rfl⟩
theorem e_X11_evens_15 : kk_d cX11_evens 15 (.aload_n 0) 1 16 := ⟨by decide +kernel, rfl⟩
theorem e_X11_evens_16 : kk_d cX11_evens 16 (.invokevirtual 120) 3 19 := ⟨by decide +kernel, rfl⟩
theorem e_X11_evens_19 : kk_d cX11_evens 19 (.iload_n 3) 1 20 := ⟨by decide +kernel, rfl⟩
theorem e_X11_evens_20 : kk_d cX11_evens 20 (.invokevirtual 163) 3 23 := ⟨by decide +kernel, rfl⟩
theorem e_X11_evens_23 : kk_d cX11_evens 23 (.aload_n 0) 1 24 := ⟨by decide +kernel, rfl⟩
theorem e_X11_evens_24 : kk_d cX11_evens 24 (.aload_n 0) 1 25 := ⟨by decide +kernel, rfl⟩
theorem e_X11_evens_25 : kk_d cX11_evens 25 (.invokevirtual 120) 3 28 := ⟨by decide +kernel, rfl⟩
theorem e_X11_evens_28 : kk_d cX11_evens 28 (.iload_n 1) 1 29 := ⟨by decide +kernel, rfl⟩
theorem e_X11_evens_29 : kk_d cX11_evens 29 (.invokevirtual 163) 3 32 := ⟨by decide +kernel, rfl⟩
theorem e_X11_evens_32 : kk_dj cX11_evens 32 (.if_icmp .le 5) 3 (5) 35 37 := ⟨by decide +kernel, rfl, by decide⟩
theorem e_X11_evens_37 : kk_d cX11_evens 37 (.aload_n 0) 1 38 := ⟨by decide +kernel, rfl⟩
theorem e_X11_evens_38 : kk_d cX11_evens 38 (.aload_n 0) 1 39 := ⟨by decide +kernel, rfl⟩
theorem e_X11_evens_39 : kk_d cX11_evens 39 (.invokevirtual 120) 3 42 := ⟨by decide +kernel, rfl⟩
theorem e_X11_evens_42 : kk_d cX11_evens 42 (.iload_n 3) 1 43 := ⟨by decide +kernel, rfl⟩
theorem e_X11_evens_43 : kk_d cX11_evens 43 (.invokevirtual 163) 3 46 := ⟨by decide +kernel, rfl⟩
theorem e_X11_evens_46 : kk_d cX11_evens 46 (.aload_n 0) 1 47 := ⟨by decide +kernel, rfl⟩
theorem e_X11_evens_47 : kk_d cX11_evens 47 (.aload_n 0) 1 48 := ⟨by decide +kernel, rfl⟩
theorem e_X11_evens_48 : kk_d cX11_evens 48 (.invokevirtual 120) 3 51 := ⟨by decide +kernel, rfl⟩
theorem e_X11_evens_51 : kk_d cX11_evens 51 (.iload_n 2) 1 52 := ⟨by decide +kernel, rfl⟩
theorem e_X11_evens_52 : kk_d cX11_evens 52 (.invokevirtual 163) 3 55 := ⟨by decide +kernel, rfl⟩
theorem e_X11_evens_55 : kk_dj cX11_evens 55 (.if_icmp .ge 5) 3 (5) 58 60 := ⟨by decide +kernel, rfl, by decide⟩
theorem e_X11_evens_60 : kk_d cX11_evens 60 (.iinc 3 1) 3 63 := ⟨by decide +kernel, rfl⟩
theorem e_X11_evens_63 : kk_dj cX11_evens 63 (.goto (-57)) 3 (-57) 66 6 := ⟨by decide +kernel, rfl, by decide⟩
theorem e_X11_evens_58 : kk_d cX11_evens 58 (.iload_n 3) 1 59 := ⟨by decide +kernel, rfl⟩
theorem e_X11_evens_59 : kk_d cX11_evens 59 (.istore_n 2) 1 60 := ⟨by decide +kernel, rfl⟩
theorem e_X11_evens_35 : kk_d cX11_evens 35 (.iload_n 3) 1 36 := ⟨by decide +kernel, rfl⟩
theorem e_X11_evens_36 : kk_d cX11_evens 36 (.istore_n 1) 1 37 := ⟨by decide +kernel, rfl⟩
set_option maxRecDepth 4000 in
theorem s_X11_evens (Z : kk_Z) (σ : kk_St) (Q : Int32 → kk_St → Prop) (h : f_X11_evens σ Q) : kk_M Z sh_M yX11_evens cX11_evens 4 (some .boolean) (kk_R 5) [.ref (Z.2.1 0)] σ (kk_Qi Z sh_M Q) := by
  unfold f_X11_evens at h
  refine kk_met (own := RX11) (by decide) rfl (Nat.le_of_ble_eq_true rfl) rfl ?_
  refine kk_iconst ic_0 e_X11_evens_0 ?_
  refine kk_istore_n (lv' := [(1, .int (0 : Int32)), (0, .ref (Z.2.1 0))]) e_X11_evens_1 rfl (by decide) rfl ?_
  refine kk_iconst ic_0 e_X11_evens_2 ?_
  refine kk_istore_n (lv' := [(2, .int (0 : Int32)), (1, .int (0 : Int32)), (0, .ref (Z.2.1 0))]) e_X11_evens_3 rfl (by decide) rfl ?_
  refine kk_iconst ic_1 e_X11_evens_4 ?_
  refine kk_istore_n (lv' := [(3, .int (1 : Int32)), (2, .int (0 : Int32)), (1, .int (0 : Int32)), (0, .ref (Z.2.1 0))]) e_X11_evens_5 rfl (by decide) rfl ?_
  refine kk_sub [3, 2, 1, 0] rfl ?_
  refine kk_lpW3 (P := fun (v1_1 : Int32) (v2_2 : Int32) (v3_3 : Int32) => KK Z sh_M RX11 cX11_evens 4 (some .boolean) (kk_R 5) (kk_Qi Z sh_M Q) 6 [(0, .ref (Z.2.1 0)), (1, .int v1_1), (2, .int v2_2), (3, .int v3_3)] [] σ) ?_ h
  intro rec_4 hrec_4 v1_1 v2_2 v3_3 h
  refine kk_iload_n 3 rfl e_X11_evens_6 ?_
  refine kk_aload_n 0 rfl e_X11_evens_7 ?_
  refine kk_callVip (As := []) (rest := [.int v3_3]) e_X11_evens_8 ml_X11_198 ⟨_, _, _, _, rfl, rfl⟩ rfl (kk_fitR (by decide) (by decide)) (Nat.le_of_ble_eq_true rfl) rfl (s_X11_greatestUsed Z σ _ h) (fun r_5 h => ?_)
  refine kk_icmp_gt e_X11_evens_11 (fun c_28 => ?_) (fun c_28 => ?_)
  · replace h := h.1 c_28
    refine kk_aload_n 0 rfl e_X11_evens_66 ?_
    refine kk_aload_n 0 rfl e_X11_evens_67 ?_
    refine kk_callVip (As := []) (rest := [.ref (Z.2.1 0)]) e_X11_evens_68 ml_X11_120 ⟨_, _, _, _, rfl, rfl⟩ rfl (kk_fitR (by decide) (by decide)) (Nat.le_of_ble_eq_true rfl) rfl (s_X11_allLines Z σ _ h) (fun r_6 h => ?_)
    refine kk_iload_n 1 rfl e_X11_evens_71 ?_
    refine kk_callVip (As := [.int r_6, .int v1_1]) (rest := []) e_X11_evens_72 ml_X11_163 ⟨_, _, _, _, rfl, rfl⟩ rfl (kk_fitR (by decide) (by decide)) (Nat.le_of_ble_eq_true rfl) rfl (s_X11_manyWith Z r_6 v1_1 σ _ h) (fun r_7 h => ?_)
    refine kk_aload_n 0 rfl e_X11_evens_75 ?_
    refine kk_aload_n 0 rfl e_X11_evens_76 ?_
    refine kk_callVip (As := []) (rest := [.ref (Z.2.1 0), .int r_7]) e_X11_evens_77 ml_X11_120 ⟨_, _, _, _, rfl, rfl⟩ rfl (kk_fitR (by decide) (by decide)) (Nat.le_of_ble_eq_true rfl) rfl (s_X11_allLines Z σ _ h) (fun r_8 h => ?_)
    refine kk_iload_n 2 rfl e_X11_evens_80 ?_
    refine kk_callVip (As := [.int r_8, .int v2_2]) (rest := [.int r_7]) e_X11_evens_81 ml_X11_163 ⟨_, _, _, _, rfl, rfl⟩ rfl (kk_fitR (by decide) (by decide)) (Nat.le_of_ble_eq_true rfl) rfl (s_X11_manyWith Z r_8 v2_2 σ _ h) (fun r_9 h => ?_)
    refine kk_iconst ic_2 e_X11_evens_84 ?_
    refine kk_iadd e_X11_evens_85 ?_
    refine kk_icmp_ge e_X11_evens_86 (fun c_13 => ?_) (fun c_13 => ?_)
    · replace h := h.1 c_13
      refine kk_aload_n 0 rfl e_X11_evens_91 ?_
      refine kk_getr e_X11_evens_92 fl_X11_31 rfl rfl ?_
      refine kk_aload_n 0 rfl e_X11_evens_95 ?_
      refine kk_iload_n 1 rfl e_X11_evens_96 ?_
      refine kk_iload_n 2 rfl e_X11_evens_97 ?_
      refine kk_callVi (As := [.int v1_1, .int v2_2]) (rest := [.ref (Z.2.1 3)]) e_X11_evens_98 ml_X11_201 ⟨_, _, _, _, rfl, rfl⟩ rfl (kk_fitR (by decide) (by decide)) (Nat.le_of_ble_eq_true rfl) rfl (s_X11_longerChain Z v1_1 v2_2 σ _ h) (fun r_10 σ_11 h => ?_)
      refine kk_iload_n 1 rfl e_X11_evens_101 ?_
      refine kk_iload_n 2 rfl e_X11_evens_102 ?_
      refine kk_callSv (As := [.ref (Z.2.1 3), .int r_10, .int v1_1, .int v2_2]) (rest := []) e_X11_evens_103 ml_X11_156 rfl (kk_fitR (by decide) (by decide)) (Nat.le_of_ble_eq_true rfl) rfl (s_X11_flips Z 3 20 r_10 v1_1 v2_2 σ_11 _ rfl h) (fun σ_12 h => ?_)
      refine kk_iconst ic_1 e_X11_evens_106 ?_
      exact kk_zret e_X11_evens_107 (Or.inr rfl) h
    · replace h := h.2 c_13
      refine kk_iconst ic_0 e_X11_evens_89 ?_
      exact kk_zret e_X11_evens_90 (Or.inl rfl) h
  · replace h := h.2 c_28
    refine kk_aload_n 0 rfl e_X11_evens_14 ?_
    refine kk_aload_n 0 rfl e_X11_evens_15 ?_
    refine kk_callVip (As := []) (rest := [.ref (Z.2.1 0)]) e_X11_evens_16 ml_X11_120 ⟨_, _, _, _, rfl, rfl⟩ rfl (kk_fitR (by decide) (by decide)) (Nat.le_of_ble_eq_true rfl) rfl (s_X11_allLines Z σ _ h) (fun r_14 h => ?_)
    refine kk_iload_n 3 rfl e_X11_evens_19 ?_
    refine kk_callVip (As := [.int r_14, .int v3_3]) (rest := []) e_X11_evens_20 ml_X11_163 ⟨_, _, _, _, rfl, rfl⟩ rfl (kk_fitR (by decide) (by decide)) (Nat.le_of_ble_eq_true rfl) rfl (s_X11_manyWith Z r_14 v3_3 σ _ h) (fun r_15 h => ?_)
    refine kk_aload_n 0 rfl e_X11_evens_23 ?_
    refine kk_aload_n 0 rfl e_X11_evens_24 ?_
    refine kk_callVip (As := []) (rest := [.ref (Z.2.1 0), .int r_15]) e_X11_evens_25 ml_X11_120 ⟨_, _, _, _, rfl, rfl⟩ rfl (kk_fitR (by decide) (by decide)) (Nat.le_of_ble_eq_true rfl) rfl (s_X11_allLines Z σ _ h) (fun r_16 h => ?_)
    refine kk_iload_n 1 rfl e_X11_evens_28 ?_
    refine kk_callVip (As := [.int r_16, .int v1_1]) (rest := [.int r_15]) e_X11_evens_29 ml_X11_163 ⟨_, _, _, _, rfl, rfl⟩ rfl (kk_fitR (by decide) (by decide)) (Nat.le_of_ble_eq_true rfl) rfl (s_X11_manyWith Z r_16 v1_1 σ _ h) (fun r_17 h => ?_)
    refine kk_jW1 (P := fun (v1_18 : Int32) => KK Z sh_M RX11 cX11_evens 4 (some .boolean) (kk_R 5) (kk_Qi Z sh_M Q) 37 [(0, .ref (Z.2.1 0)), (1, .int v1_18), (2, .int v2_2), (3, .int v3_3)] [] σ) h ?_ ?_
    · intro v1_18 h
      refine kk_aload_n 0 rfl e_X11_evens_37 ?_
      refine kk_aload_n 0 rfl e_X11_evens_38 ?_
      refine kk_callVip (As := []) (rest := [.ref (Z.2.1 0)]) e_X11_evens_39 ml_X11_120 ⟨_, _, _, _, rfl, rfl⟩ rfl (kk_fitR (by decide) (by decide)) (Nat.le_of_ble_eq_true rfl) rfl (s_X11_allLines Z σ _ h) (fun r_20 h => ?_)
      refine kk_iload_n 3 rfl e_X11_evens_42 ?_
      refine kk_callVip (As := [.int r_20, .int v3_3]) (rest := []) e_X11_evens_43 ml_X11_163 ⟨_, _, _, _, rfl, rfl⟩ rfl (kk_fitR (by decide) (by decide)) (Nat.le_of_ble_eq_true rfl) rfl (s_X11_manyWith Z r_20 v3_3 σ _ h) (fun r_21 h => ?_)
      refine kk_aload_n 0 rfl e_X11_evens_46 ?_
      refine kk_aload_n 0 rfl e_X11_evens_47 ?_
      refine kk_callVip (As := []) (rest := [.ref (Z.2.1 0), .int r_21]) e_X11_evens_48 ml_X11_120 ⟨_, _, _, _, rfl, rfl⟩ rfl (kk_fitR (by decide) (by decide)) (Nat.le_of_ble_eq_true rfl) rfl (s_X11_allLines Z σ _ h) (fun r_22 h => ?_)
      refine kk_iload_n 2 rfl e_X11_evens_51 ?_
      refine kk_callVip (As := [.int r_22, .int v2_2]) (rest := [.int r_21]) e_X11_evens_52 ml_X11_163 ⟨_, _, _, _, rfl, rfl⟩ rfl (kk_fitR (by decide) (by decide)) (Nat.le_of_ble_eq_true rfl) rfl (s_X11_manyWith Z r_22 v2_2 σ _ h) (fun r_23 h => ?_)
      refine kk_jW1 (P := fun (v2_24 : Int32) => KK Z sh_M RX11 cX11_evens 4 (some .boolean) (kk_R 5) (kk_Qi Z sh_M Q) 60 [(0, .ref (Z.2.1 0)), (1, .int v1_18), (2, .int v2_24), (3, .int v3_3)] [] σ) h ?_ ?_
      · intro v2_24 h
        refine kk_iinc (lv' := [(3, .int (v3_3 + (1 : Int32))), (0, .ref (Z.2.1 0)), (1, .int v1_18), (2, .int v2_24)]) e_X11_evens_60 (j := 3) rfl (ii_1 v3_3) (by decide) rfl ?_
        refine kk_goto e_X11_evens_63 ?_
        exact kk_sub [1, 2, 3, 0] rfl (hrec_4 v1_18 v2_24 (v3_3 + (1 : Int32)) h)
      · intro J_25 hJ_25 h
        refine kk_icmp_ge e_X11_evens_55 (fun c_26 => ?_) (fun c_26 => ?_)
        · replace h := h.1 c_26
          exact kk_sub [0, 1, 2, 3] rfl (hJ_25 v2_2 h)
        · replace h := h.2 c_26
          refine kk_iload_n 3 rfl e_X11_evens_58 ?_
          refine kk_istore_n (lv' := [(2, .int v3_3), (0, .ref (Z.2.1 0)), (1, .int v1_18), (3, .int v3_3)]) e_X11_evens_59 rfl (by decide) rfl ?_
          exact kk_sub [1, 2, 0, 3] rfl (hJ_25 v3_3 h)
    · intro J_19 hJ_19 h
      refine kk_icmp_le e_X11_evens_32 (fun c_27 => ?_) (fun c_27 => ?_)
      · replace h := h.1 c_27
        exact kk_sub [0, 1, 2, 3] rfl (hJ_19 v1_1 h)
      · replace h := h.2 c_27
        refine kk_iload_n 3 rfl e_X11_evens_35 ?_
        refine kk_istore_n (lv' := [(1, .int v3_3), (0, .ref (Z.2.1 0)), (2, .int v2_2), (3, .int v3_3)]) e_X11_evens_36 rfl (by decide) rfl ?_
        exact kk_sub [1, 0, 2, 3] rfl (hJ_19 v3_3 h)
theorem e_X11_even_0 : kk_d cX11_even 0 (.iconst 0) 1 1 := ⟨by decide +kernel, rfl⟩
theorem e_X11_even_1 : kk_d cX11_even 1 (.istore_n 1) 1 2 := ⟨by decide +kernel, rfl⟩
theorem e_X11_even_2 : kk_d cX11_even 2 (.aload_n 0) 1 3 := ⟨by decide +kernel, rfl⟩
theorem e_X11_even_3 : kk_d cX11_even 3 (.invokevirtual 204) 3 6 := ⟨by decide +kernel, rfl⟩
theorem e_X11_even_6 : kk_dj cX11_even 6 (.ifCond .eq 9) 3 (9) 9 15 := ⟨by decide +kernel, rfl, by decide⟩
theorem e_X11_even_15 : kk_d cX11_even 15 (.iload_n 1) 1 16 := ⟨by decide +kernel, rfl⟩
theorem e_X11_even_16 : kk_d cX11_even 16 .ireturn 1 17 := ⟨by decide +kernel, rfl⟩
theorem e_X11_even_9 : kk_d cX11_even 9 (.iinc 1 1) 3 12 := ⟨by decide +kernel, rfl⟩
theorem e_X11_even_12 : kk_dj cX11_even 12 (.goto (-10)) 3 (-10) 15 2 := ⟨by decide +kernel, rfl, by decide⟩
set_option maxRecDepth 4000 in
theorem s_X11_even (Z : kk_Z) (σ : kk_St) (Q : Int32 → kk_St → Prop) (h : f_X11_even σ Q) : kk_M Z sh_M yX11_even cX11_even 2 (some .int) (kk_R 6) [.ref (Z.2.1 0)] σ (kk_Qi Z sh_M Q) := by
  unfold f_X11_even at h
  refine kk_met (own := RX11) (by decide) rfl (Nat.le_of_ble_eq_true rfl) rfl ?_
  refine kk_iconst ic_0 e_X11_even_0 ?_
  refine kk_istore_n (lv' := [(1, .int (0 : Int32)), (0, .ref (Z.2.1 0))]) e_X11_even_1 rfl (by decide) rfl ?_
  refine kk_sub [1, 0] rfl ?_
  refine kk_lpW2 (P := fun (v1_1 : Int32) (σ_2 : kk_St) => KK Z sh_M RX11 cX11_even 2 (some .int) (kk_R 6) (kk_Qi Z sh_M Q) 2 [(0, .ref (Z.2.1 0)), (1, .int v1_1)] [] σ_2) ?_ h
  intro rec_3 hrec_3 v1_1 σ_2 h
  refine kk_aload_n 0 rfl e_X11_even_2 ?_
  refine kk_callVi (As := []) (rest := []) e_X11_even_3 ml_X11_204 ⟨_, _, _, _, rfl, rfl⟩ rfl (kk_fitR (by decide) (by decide)) (Nat.le_of_ble_eq_true rfl) rfl (s_X11_evens Z σ_2 _ h) (fun r_4 σ_5 h => ?_)
  refine kk_if_eq e_X11_even_6 (fun c_6 => ?_) (fun c_6 => ?_)
  · replace h := h.1 c_6
    refine kk_iload_n 1 rfl e_X11_even_15 ?_
    exact kk_iret e_X11_even_16 h
  · replace h := h.2 c_6
    refine kk_iinc (lv' := [(1, .int (v1_1 + (1 : Int32))), (0, .ref (Z.2.1 0))]) e_X11_even_9 (j := 1) rfl (ii_1 v1_1) (by decide) rfl ?_
    refine kk_goto e_X11_even_12 ?_
    exact kk_sub [1, 0] rfl (hrec_3 (v1_1 + (1 : Int32)) σ_5 h)
theorem e_X11_otherEnd_0 : kk_d cX11_otherEnd 0 (.aload_n 0) 1 1 := ⟨by decide +kernel, rfl⟩
theorem e_X11_otherEnd_1 : kk_d cX11_otherEnd 1 (.getfield 24) 3 4 := ⟨by decide +kernel, rfl⟩
theorem e_X11_otherEnd_4 : kk_d cX11_otherEnd 4 (.iload_n 1) 1 5 := ⟨by decide +kernel, rfl⟩
theorem e_X11_otherEnd_5 : kk_d cX11_otherEnd 5 .iaload 1 6 := ⟨by decide +kernel, rfl⟩
theorem e_X11_otherEnd_6 : kk_d cX11_otherEnd 6 (.aload_n 0) 1 7 := ⟨by decide +kernel, rfl⟩
theorem e_X11_otherEnd_7 : kk_d cX11_otherEnd 7 (.getfield 28) 3 10 := ⟨by decide +kernel, rfl⟩
theorem e_X11_otherEnd_10 : kk_d cX11_otherEnd 10 (.iload_n 1) 1 11 := ⟨by decide +kernel, rfl⟩
theorem e_X11_otherEnd_11 : kk_d cX11_otherEnd 11 .iaload 1 12 := ⟨by decide +kernel, rfl⟩
theorem e_X11_otherEnd_12 : kk_d cX11_otherEnd 12 .iadd 1 13 := ⟨by decide +kernel, rfl⟩
theorem e_X11_otherEnd_13 : kk_d cX11_otherEnd 13 (.iload_n 2) 1 14 := ⟨by decide +kernel, rfl⟩
theorem e_X11_otherEnd_14 : kk_d cX11_otherEnd 14 .isub 1 15 := ⟨by decide +kernel, rfl⟩
theorem e_X11_otherEnd_15 : kk_d cX11_otherEnd 15 .ireturn 1 16 := ⟨by decide +kernel, rfl⟩
set_option maxRecDepth 4000 in
theorem s_X11_otherEnd (Z : kk_Z) (v1 : Int32) (v2 : Int32) (σ : kk_St) (Q : Int32 → Prop) (h : f_X11_otherEnd v1 v2 σ Q) : kk_M Z sh_M yX11_otherEnd cX11_otherEnd 3 (some .int) (kk_R 2) [.ref (Z.2.1 0), .int v1, .int v2] σ (kk_Qi Z sh_M (fun r σ' => σ' = σ ∧ Q r)) := by
  unfold f_X11_otherEnd at h
  refine kk_met (own := RX11) (by decide) rfl (Nat.le_of_ble_eq_true rfl) rfl ?_
  refine kk_aload_n 0 rfl e_X11_otherEnd_0 ?_
  refine kk_getr e_X11_otherEnd_1 fl_X11_24 rfl rfl ?_
  refine kk_iload_n 1 rfl e_X11_otherEnd_4 ?_
  refine kk_iald e_X11_otherEnd_5 rfl h.1 ?_
  replace h := h.2
  refine kk_aload_n 0 rfl e_X11_otherEnd_6 ?_
  refine kk_getr e_X11_otherEnd_7 fl_X11_28 rfl rfl ?_
  refine kk_iload_n 1 rfl e_X11_otherEnd_10 ?_
  refine kk_iald e_X11_otherEnd_11 rfl h.1 ?_
  replace h := h.2
  refine kk_iadd e_X11_otherEnd_12 ?_
  refine kk_iload_n 2 rfl e_X11_otherEnd_13 ?_
  refine kk_isub e_X11_otherEnd_14 ?_
  exact kk_iret e_X11_otherEnd_15 ⟨rfl, h⟩
theorem e_X11_laysFan_0 : kk_d cX11_laysFan 0 (.aload_n 0) 1 1 := ⟨by decide +kernel, rfl⟩
theorem e_X11_laysFan_1 : kk_d cX11_laysFan 1 (.getfield 40) 3 4 := ⟨by decide +kernel, rfl⟩
theorem e_X11_laysFan_4 : kk_d cX11_laysFan 4 (.iconst 0) 1 5 := ⟨by decide +kernel, rfl⟩
theorem e_X11_laysFan_5 : kk_d cX11_laysFan 5 (.aload_n 0) 1 6 := ⟨by decide +kernel, rfl⟩
theorem e_X11_laysFan_6 : kk_d cX11_laysFan 6 (.iload_n 1) 1 7 := ⟨by decide +kernel, rfl⟩
theorem e_X11_laysFan_7 : kk_d cX11_laysFan 7 (.iload_n 2) 1 8 := ⟨by decide +kernel, rfl⟩
theorem e_X11_laysFan_8 : kk_d cX11_laysFan 8 (.invokevirtual 172) 3 11 := ⟨by decide +kernel, rfl⟩
theorem e_X11_laysFan_11 : kk_d cX11_laysFan 11 .iastore 1 12 := ⟨by decide +kernel, rfl⟩
theorem e_X11_laysFan_12 : kk_d cX11_laysFan 12 (.aload_n 0) 1 13 := ⟨by decide +kernel, rfl⟩
theorem e_X11_laysFan_13 : kk_d cX11_laysFan 13 (.iconst 1) 1 14 := ⟨by decide +kernel, rfl⟩
theorem e_X11_laysFan_14 : kk_d cX11_laysFan 14 (.putfield 175) 3 17 := ⟨by decide +kernel, rfl⟩
theorem e_X11_laysFan_17 : kk_d cX11_laysFan 17 (.iconst 1) 1 18 := ⟨by decide +kernel, rfl⟩
theorem e_X11_laysFan_18 : kk_d cX11_laysFan 18 (.aload_n 0) 1 19 := ⟨by decide +kernel, rfl⟩
theorem e_X11_laysFan_19 : kk_d cX11_laysFan 19 (.getfield 40) 3 22 := ⟨by decide +kernel, rfl⟩
theorem e_X11_laysFan_22 : kk_d cX11_laysFan 22 (.iconst 0) 1 23 := ⟨by decide +kernel, rfl⟩
theorem e_X11_laysFan_23 : kk_d cX11_laysFan 23 .iaload 1 24 := ⟨by decide +kernel, rfl⟩
theorem e_X11_laysFan_24 : kk_d cX11_laysFan 24 .ishl 1 25 := ⟨by decide +kernel, rfl⟩
theorem e_X11_laysFan_25 : kk_d cX11_laysFan 25 (.istore_n 3) 1 26 := ⟨by decide +kernel, rfl⟩
theorem e_X11_laysFan_26 : kk_d cX11_laysFan 26 (.iconst 1) 1 27 := ⟨by decide +kernel, rfl⟩
theorem e_X11_laysFan_27 : kk_d cX11_laysFan 27 (.istore 4) 2 29 := ⟨by decide +kernel, rfl⟩
theorem e_X11_laysFan_29 : kk_d cX11_laysFan 29 (.iload 4) 2 31 := ⟨by decide +kernel, rfl⟩
theorem e_X11_laysFan_31 : kk_dj cX11_laysFan 31 (.ifCond .eq 181) 3 (181) 34 212 := ⟨by decide +kernel, rfl, by decide⟩
theorem e_X11_laysFan_212 : kk_d cX11_laysFan 212 .return_ 1 213 := ⟨by decide +kernel, rfl⟩
theorem e_X11_laysFan_34 : kk_d cX11_laysFan 34 (.aload_n 0) 1 35 := ⟨by decide +kernel, rfl⟩
theorem e_X11_laysFan_35 : kk_d cX11_laysFan 35 (.getfield 40) 3 38 := ⟨by decide +kernel, rfl⟩
theorem e_X11_laysFan_38 : kk_d cX11_laysFan 38 (.aload_n 0) 1 39 := ⟨by decide +kernel, rfl⟩
theorem e_X11_laysFan_39 : kk_d cX11_laysFan 39 (.getfield 175) 3 42 := ⟨by decide +kernel, rfl⟩
theorem e_X11_laysFan_42 : kk_d cX11_laysFan 42 (.iconst 1) 1 43 := ⟨by decide +kernel, rfl⟩
theorem e_X11_laysFan_43 : kk_d cX11_laysFan 43 .isub 1 44 := ⟨by decide +kernel, rfl⟩
theorem e_X11_laysFan_44 : kk_d cX11_laysFan 44 .iaload 1 45 := ⟨by decide +kernel, rfl⟩
theorem e_X11_laysFan_45 : kk_d cX11_laysFan 45 (.istore 5) 2 47 := ⟨by decide +kernel, rfl⟩
theorem e_X11_laysFan_47 : kk_d cX11_laysFan 47 (.iconst (-1)) 1 48 := ⟨by decide +kernel, rfl⟩
theorem e_X11_laysFan_48 : kk_d cX11_laysFan 48 (.istore 6) 2 50 := ⟨by decide +kernel, rfl⟩
theorem e_X11_laysFan_50 : kk_d cX11_laysFan 50 (.iconst 0) 1 51 := ⟨by decide +kernel, rfl⟩
theorem e_X11_laysFan_51 : kk_d cX11_laysFan 51 (.istore 7) 2 53 := ⟨by decide +kernel, rfl⟩
theorem e_X11_laysFan_53 : kk_d cX11_laysFan 53 (.iload 7) 2 55 := ⟨by decide +kernel, rfl⟩
theorem e_X11_laysFan_55 : kk_d cX11_laysFan 55 (.aload_n 0) 1 56 := ⟨by decide +kernel, rfl⟩
theorem e_X11_laysFan_56 : kk_d cX11_laysFan 56 (.getfield 96) 3 59 := ⟨by decide +kernel, rfl⟩
theorem e_X11_laysFan_59 : kk_dj cX11_laysFan 59 (.if_icmp .ge 89) 3 (89) 62 148 := ⟨by decide +kernel, rfl, by decide⟩
theorem e_X11_laysFan_148 : kk_d cX11_laysFan 148 (.iload 6) 2 150 := ⟨by decide +kernel, rfl⟩
theorem e_X11_laysFan_150 : kk_d cX11_laysFan 150 (.iconst (-1)) 1 151 := ⟨by decide +kernel, rfl⟩
theorem e_X11_laysFan_151 : kk_dj cX11_laysFan 151 (.if_icmp .eq 7) 3 (7) 154 158 := ⟨by decide +kernel, rfl, by decide⟩
theorem e_X11_laysFan_159 : kk_d cX11_laysFan 159 (.istore 4) 2 161 := ⟨by decide +kernel, rfl⟩
theorem e_X11_laysFan_161 : kk_d cX11_laysFan 161 (.iload 4) 2 163 := ⟨by decide +kernel, rfl⟩
theorem e_X11_laysFan_163 : kk_dj cX11_laysFan 163 (.ifCond .ne 6) 3 (6) 166 169 := ⟨by decide +kernel, rfl, by decide⟩
theorem e_X11_laysFan_169 : kk_d cX11_laysFan 169 (.aload_n 0) 1 170 := ⟨by decide +kernel, rfl⟩
theorem e_X11_laysFan_170 : kk_d cX11_laysFan 170 (.getfield 40) 3 173 := ⟨by decide +kernel, rfl⟩
theorem e_X11_laysFan_173 : kk_d cX11_laysFan 173 (.aload_n 0) 1 174 := ⟨by decide +kernel, rfl⟩
theorem e_X11_laysFan_174 : kk_d cX11_laysFan 174 (.getfield 175) 3 177 := ⟨by decide +kernel, rfl⟩
theorem e_X11_laysFan_177 : kk_d cX11_laysFan 177 (.aload_n 0) 1 178 := ⟨by decide +kernel, rfl⟩
theorem e_X11_laysFan_178 : kk_d cX11_laysFan 178 (.iload 6) 2 180 := ⟨by decide +kernel, rfl⟩
theorem e_X11_laysFan_180 : kk_d cX11_laysFan 180 (.iload_n 2) 1 181 := ⟨by decide +kernel, rfl⟩
theorem e_X11_laysFan_181 : kk_d cX11_laysFan 181 (.invokevirtual 172) 3 184 := ⟨by decide +kernel, rfl⟩
theorem e_X11_laysFan_184 : kk_d cX11_laysFan 184 .iastore 1 185 := ⟨by decide +kernel, rfl⟩
theorem e_X11_laysFan_185 : kk_d cX11_laysFan 185 (.iload_n 3) 1 186 := ⟨by decide +kernel, rfl⟩
theorem e_X11_laysFan_186 : kk_d cX11_laysFan 186 (.iconst 1) 1 187 := ⟨by decide +kernel, rfl⟩
theorem e_X11_laysFan_187 : kk_d cX11_laysFan 187 (.aload_n 0) 1 188 := ⟨by decide +kernel, rfl⟩
theorem e_X11_laysFan_188 : kk_d cX11_laysFan 188 (.getfield 40) 3 191 := ⟨by decide +kernel, rfl⟩
theorem e_X11_laysFan_191 : kk_d cX11_laysFan 191 (.aload_n 0) 1 192 := ⟨by decide +kernel, rfl⟩
theorem e_X11_laysFan_192 : kk_d cX11_laysFan 192 (.getfield 175) 3 195 := ⟨by decide +kernel, rfl⟩
theorem e_X11_laysFan_195 : kk_d cX11_laysFan 195 .iaload 1 196 := ⟨by decide +kernel, rfl⟩
theorem e_X11_laysFan_196 : kk_d cX11_laysFan 196 .ishl 1 197 := ⟨by decide +kernel, rfl⟩
theorem e_X11_laysFan_197 : kk_d cX11_laysFan 197 .ior 1 198 := ⟨by decide +kernel, rfl⟩
theorem e_X11_laysFan_198 : kk_d cX11_laysFan 198 (.istore_n 3) 1 199 := ⟨by decide +kernel, rfl⟩
theorem e_X11_laysFan_199 : kk_d cX11_laysFan 199 (.aload_n 0) 1 200 := ⟨by decide +kernel, rfl⟩
theorem e_X11_laysFan_200 : kk_d cX11_laysFan 200 .dup 1 201 := ⟨by decide +kernel, rfl⟩
theorem e_X11_laysFan_201 : kk_d cX11_laysFan 201 (.getfield 175) 3 204 := ⟨by decide +kernel, rfl⟩
theorem e_X11_laysFan_204 : kk_d cX11_laysFan 204 (.iconst 1) 1 205 := ⟨by decide +kernel, rfl⟩
theorem e_X11_laysFan_205 : kk_d cX11_laysFan 205 .iadd 1 206 := ⟨by decide +kernel, rfl⟩
theorem e_X11_laysFan_206 : kk_d cX11_laysFan 206 (.putfield 175) 3 209 := ⟨by decide +kernel, rfl⟩
theorem e_X11_laysFan_209 : kk_dj cX11_laysFan 209 (.goto (-180)) 3 (-180) 212 29 := ⟨by decide +kernel, rfl, by decide⟩
theorem e_X11_laysFan_166 : kk_dj cX11_laysFan 166 (.goto (-137)) 3 (-137) 169 29 := ⟨by decide +kernel, rfl, by decide⟩
theorem e_X11_laysFan_158 : kk_d cX11_laysFan 158 (.iconst 0) 1 159 := ⟨by decide +kernel, rfl⟩
theorem e_X11_laysFan_154 : kk_d cX11_laysFan 154 (.iconst 1) 1 155 := ⟨by decide +kernel, rfl⟩
theorem e_X11_laysFan_155 : kk_dj cX11_laysFan 155 (.goto 4) 3 (4) 158 159 := ⟨by decide +kernel, rfl, by decide⟩
theorem e_X11_laysFan_62 : kk_d cX11_laysFan 62 (.aload_n 0) 1 63 := ⟨by decide +kernel, rfl⟩
theorem e_X11_laysFan_63 : kk_d cX11_laysFan 63 (.iload 7) 2 65 := ⟨by decide +kernel, rfl⟩
theorem e_X11_laysFan_65 : kk_d cX11_laysFan 65 (.iload_n 2) 1 66 := ⟨by decide +kernel, rfl⟩
theorem e_X11_laysFan_66 : kk_d cX11_laysFan 66 (.invokevirtual 114) 3 69 := ⟨by decide +kernel, rfl⟩
theorem e_X11_laysFan_69 : kk_dj cX11_laysFan 69 (.ifCond .eq 73) 3 (73) 72 142 := ⟨by decide +kernel, rfl, by decide⟩
theorem e_X11_laysFan_142 : kk_d cX11_laysFan 142 (.iinc 7 1) 3 145 := ⟨by decide +kernel, rfl⟩
theorem e_X11_laysFan_145 : kk_dj cX11_laysFan 145 (.goto (-92)) 3 (-92) 148 53 := ⟨by decide +kernel, rfl, by decide⟩
theorem e_X11_laysFan_72 : kk_d cX11_laysFan 72 (.aload_n 0) 1 73 := ⟨by decide +kernel, rfl⟩
theorem e_X11_laysFan_73 : kk_d cX11_laysFan 73 (.getfield 31) 3 76 := ⟨by decide +kernel, rfl⟩
theorem e_X11_laysFan_76 : kk_d cX11_laysFan 76 (.iload 7) 2 78 := ⟨by decide +kernel, rfl⟩
theorem e_X11_laysFan_78 : kk_d cX11_laysFan 78 .iaload 1 79 := ⟨by decide +kernel, rfl⟩
theorem e_X11_laysFan_79 : kk_dj cX11_laysFan 79 (.ifCond .lt 63) 3 (63) 82 142 := ⟨by decide +kernel, rfl, by decide⟩
theorem e_X11_laysFan_82 : kk_d cX11_laysFan 82 (.iload_n 3) 1 83 := ⟨by decide +kernel, rfl⟩
theorem e_X11_laysFan_83 : kk_d cX11_laysFan 83 (.aload_n 0) 1 84 := ⟨by decide +kernel, rfl⟩
theorem e_X11_laysFan_84 : kk_d cX11_laysFan 84 (.iload 7) 2 86 := ⟨by decide +kernel, rfl⟩
theorem e_X11_laysFan_86 : kk_d cX11_laysFan 86 (.iload_n 2) 1 87 := ⟨by decide +kernel, rfl⟩
theorem e_X11_laysFan_87 : kk_d cX11_laysFan 87 (.invokevirtual 172) 3 90 := ⟨by decide +kernel, rfl⟩
theorem e_X11_laysFan_90 : kk_d cX11_laysFan 90 (.invokestatic 11) 3 93 := ⟨by decide +kernel, rfl⟩
theorem e_X11_laysFan_93 : kk_dj cX11_laysFan 93 (.ifCond .ne 49) 3 (49) 96 142 := ⟨by decide +kernel, rfl, by decide⟩
theorem e_X11_laysFan_96 : kk_d cX11_laysFan 96 (.aload_n 0) 1 97 := ⟨by decide +kernel, rfl⟩
theorem e_X11_laysFan_97 : kk_d cX11_laysFan 97 (.iload 5) 2 99 := ⟨by decide +kernel, rfl⟩
theorem e_X11_laysFan_99 : kk_d cX11_laysFan 99 (.aload_n 0) 1 100 := ⟨by decide +kernel, rfl⟩
theorem e_X11_laysFan_100 : kk_d cX11_laysFan 100 (.getfield 31) 3 103 := ⟨by decide +kernel, rfl⟩
theorem e_X11_laysFan_103 : kk_d cX11_laysFan 103 (.iload 7) 2 105 := ⟨by decide +kernel, rfl⟩
theorem e_X11_laysFan_105 : kk_d cX11_laysFan 105 .iaload 1 106 := ⟨by decide +kernel, rfl⟩
theorem e_X11_laysFan_106 : kk_d cX11_laysFan 106 (.invokevirtual 140) 3 109 := ⟨by decide +kernel, rfl⟩
theorem e_X11_laysFan_109 : kk_dj cX11_laysFan 109 (.ifCond .ne 6) 3 (6) 112 115 := ⟨by decide +kernel, rfl, by decide⟩
theorem e_X11_laysFan_115 : kk_d cX11_laysFan 115 (.iload 6) 2 117 := ⟨by decide +kernel, rfl⟩
theorem e_X11_laysFan_117 : kk_d cX11_laysFan 117 (.iconst (-1)) 1 118 := ⟨by decide +kernel, rfl⟩
theorem e_X11_laysFan_118 : kk_dj cX11_laysFan 118 (.if_icmp .eq 20) 3 (20) 121 138 := ⟨by decide +kernel, rfl, by decide⟩
theorem e_X11_laysFan_138 : kk_d cX11_laysFan 138 (.iload 7) 2 140 := ⟨by decide +kernel, rfl⟩
theorem e_X11_laysFan_140 : kk_d cX11_laysFan 140 (.istore 6) 2 142 := ⟨by decide +kernel, rfl⟩
theorem e_X11_laysFan_121 : kk_d cX11_laysFan 121 (.aload_n 0) 1 122 := ⟨by decide +kernel, rfl⟩
theorem e_X11_laysFan_122 : kk_d cX11_laysFan 122 (.getfield 31) 3 125 := ⟨by decide +kernel, rfl⟩
theorem e_X11_laysFan_125 : kk_d cX11_laysFan 125 (.iload 7) 2 127 := ⟨by decide +kernel, rfl⟩
theorem e_X11_laysFan_127 : kk_d cX11_laysFan 127 .iaload 1 128 := ⟨by decide +kernel, rfl⟩
theorem e_X11_laysFan_128 : kk_d cX11_laysFan 128 (.aload_n 0) 1 129 := ⟨by decide +kernel, rfl⟩
theorem e_X11_laysFan_129 : kk_d cX11_laysFan 129 (.getfield 31) 3 132 := ⟨by decide +kernel, rfl⟩
theorem e_X11_laysFan_132 : kk_d cX11_laysFan 132 (.iload 6) 2 134 := ⟨by decide +kernel, rfl⟩
theorem e_X11_laysFan_134 : kk_d cX11_laysFan 134 .iaload 1 135 := ⟨by decide +kernel, rfl⟩
theorem e_X11_laysFan_135 : kk_dj cX11_laysFan 135 (.if_icmp .ge 7) 3 (7) 138 142 := ⟨by decide +kernel, rfl, by decide⟩
theorem e_X11_laysFan_112 : kk_dj cX11_laysFan 112 (.goto 30) 3 (30) 115 142 := ⟨by decide +kernel, rfl, by decide⟩
set_option maxRecDepth 4000 in
theorem s_X11_laysFan (Z : kk_Z) (v1 : Int32) (v2 : Int32) (σ : kk_St) (Q : kk_St → Prop) (h : f_X11_laysFan v1 v2 σ Q) : kk_M Z sh_M yX11_laysFan cX11_laysFan 8 none (kk_R 5) [.ref (Z.2.1 0), .int v1, .int v2] σ (kk_Qv Z sh_M Q) := by
  unfold f_X11_laysFan at h
  refine kk_met (own := RX11) (by decide) rfl (Nat.le_of_ble_eq_true rfl) rfl ?_
  refine kk_aload_n 0 rfl e_X11_laysFan_0 ?_
  refine kk_getr e_X11_laysFan_1 fl_X11_40 rfl rfl ?_
  refine kk_iconst ic_0 e_X11_laysFan_4 ?_
  refine kk_aload_n 0 rfl e_X11_laysFan_5 ?_
  refine kk_iload_n 1 rfl e_X11_laysFan_6 ?_
  refine kk_iload_n 2 rfl e_X11_laysFan_7 ?_
  refine kk_callVip (As := [.int v1, .int v2]) (rest := [.int (0 : Int32), .ref (Z.2.1 6)]) e_X11_laysFan_8 ml_X11_172 ⟨_, _, _, _, rfl, rfl⟩ rfl (kk_fitR (by decide) (by decide)) (Nat.le_of_ble_eq_true rfl) rfl (s_X11_otherEnd Z v1 v2 σ _ h) (fun r_1 h => ?_)
  refine kk_iast e_X11_laysFan_11 rfl h.1 ?_
  replace h := h.2
  refine kk_tops (fun σ_2 eσ_2 => ?_)
  replace h := h σ_2 eσ_2
  refine kk_aload_n 0 rfl e_X11_laysFan_12 ?_
  refine kk_iconst ic_1 e_X11_laysFan_13 ?_
  refine kk_puti e_X11_laysFan_14 fl_X11_175 fn_X11_11 rfl rfl ?_
  refine kk_tops (fun σ_3 eσ_3 => ?_)
  replace h := h σ_3 eσ_3
  refine kk_iconst ic_1 e_X11_laysFan_17 ?_
  refine kk_aload_n 0 rfl e_X11_laysFan_18 ?_
  refine kk_getr e_X11_laysFan_19 fl_X11_40 rfl rfl ?_
  refine kk_iconst ic_0 e_X11_laysFan_22 ?_
  refine kk_iald e_X11_laysFan_23 rfl h.1 ?_
  replace h := h.2
  refine kk_ishl e_X11_laysFan_24 ?_
  refine kk_topi (fun v3_4 ev3_4 => ?_)
  replace h := h v3_4 ev3_4
  refine kk_istore_n (lv' := [(3, .int v3_4), (0, .ref (Z.2.1 0)), (1, .int v1), (2, .int v2)]) e_X11_laysFan_25 rfl (by decide) rfl ?_
  refine kk_iconst ic_1 e_X11_laysFan_26 ?_
  refine kk_istore (lv' := [(4, .int (1 : Int32)), (3, .int v3_4), (0, .ref (Z.2.1 0)), (1, .int v1), (2, .int v2)]) e_X11_laysFan_27 (by decide) rfl ?_
  refine kk_sub [2, 4, 1, 0] rfl ?_
  refine kk_lpW3 (P := fun (v3_5 : Int32) (v4_6 : Int32) (σ_7 : kk_St) => KK Z sh_M RX11 cX11_laysFan 8 none (kk_R 5) (kk_Qv Z sh_M Q) 29 [(0, .ref (Z.2.1 0)), (2, .int v2), (3, .int v3_5), (4, .int v4_6)] [] σ_7) ?_ h
  intro rec_8 hrec_8 v3_5 v4_6 σ_7 h
  refine kk_iload 3 rfl e_X11_laysFan_29 ?_
  refine kk_if_eq e_X11_laysFan_31 (fun c_35 => ?_) (fun c_35 => ?_)
  · replace h := h.1 c_35
    exact kk_vret e_X11_laysFan_212 h
  · replace h := h.2 c_35
    refine kk_aload_n 0 rfl e_X11_laysFan_34 ?_
    refine kk_getr e_X11_laysFan_35 fl_X11_40 rfl rfl ?_
    refine kk_aload_n 0 rfl e_X11_laysFan_38 ?_
    refine kk_geti e_X11_laysFan_39 fl_X11_175 rfl rfl ?_
    refine kk_iconst ic_1 e_X11_laysFan_42 ?_
    refine kk_isub e_X11_laysFan_43 ?_
    refine kk_iald e_X11_laysFan_44 rfl h.1 ?_
    replace h := h.2
    refine kk_topi (fun v5_9 ev5_9 => ?_)
    replace h := h v5_9 ev5_9
    refine kk_istore (lv' := [(5, .int v5_9), (0, .ref (Z.2.1 0)), (2, .int v2), (3, .int v3_5), (4, .int v4_6)]) e_X11_laysFan_45 (by decide) rfl ?_
    refine kk_iconst ic_m1 e_X11_laysFan_47 ?_
    refine kk_istore (lv' := [(6, .int (-1 : Int32)), (5, .int v5_9), (0, .ref (Z.2.1 0)), (2, .int v2), (3, .int v3_5), (4, .int v4_6)]) e_X11_laysFan_48 (by decide) rfl ?_
    refine kk_iconst ic_0 e_X11_laysFan_50 ?_
    refine kk_istore (lv' := [(7, .int (0 : Int32)), (6, .int (-1 : Int32)), (5, .int v5_9), (0, .ref (Z.2.1 0)), (2, .int v2), (3, .int v3_5), (4, .int v4_6)]) e_X11_laysFan_51 (by decide) rfl ?_
    refine kk_sub [3, 4, 5, 2, 1, 0] rfl ?_
    refine kk_lpW2 (P := fun (v6_10 : Int32) (v7_11 : Int32) => KK Z sh_M RX11 cX11_laysFan 8 none (kk_R 5) (kk_Qv Z sh_M Q) 53 [(0, .ref (Z.2.1 0)), (2, .int v2), (3, .int v3_5), (5, .int v5_9), (6, .int v6_10), (7, .int v7_11)] [] σ_7) ?_ h
    intro rec_12 hrec_12 v6_10 v7_11 h
    refine kk_iload 5 rfl e_X11_laysFan_53 ?_
    refine kk_aload_n 0 rfl e_X11_laysFan_55 ?_
    refine kk_geti e_X11_laysFan_56 fl_X11_96 rfl rfl ?_
    refine kk_icmp_ge e_X11_laysFan_59 (fun c_34 => ?_) (fun c_34 => ?_)
    · replace h := h.1 c_34
      refine kk_iload 4 rfl e_X11_laysFan_148 ?_
      refine kk_iconst ic_m1 e_X11_laysFan_150 ?_
      refine kk_jW1 (P := fun (t_13 : Int32) => KK Z sh_M RX11 cX11_laysFan 8 none (kk_R 5) (kk_Qv Z sh_M Q) 159 [(0, .ref (Z.2.1 0)), (2, .int v2), (3, .int v3_5), (6, .int v6_10)] [.int t_13] σ_7) h ?_ ?_
      · intro t_13 h
        refine kk_istore (lv' := [(4, .int t_13), (0, .ref (Z.2.1 0)), (2, .int v2), (3, .int v3_5), (6, .int v6_10)]) e_X11_laysFan_159 (by decide) rfl ?_
        refine kk_iload 0 rfl e_X11_laysFan_161 ?_
        refine kk_if_ne e_X11_laysFan_163 (fun c_19 => ?_) (fun c_19 => ?_)
        · replace h := h.1 c_19
          refine kk_aload_n 1 rfl e_X11_laysFan_169 ?_
          refine kk_getr e_X11_laysFan_170 fl_X11_40 rfl rfl ?_
          refine kk_aload_n 1 rfl e_X11_laysFan_173 ?_
          refine kk_geti e_X11_laysFan_174 fl_X11_175 rfl rfl ?_
          refine kk_aload_n 1 rfl e_X11_laysFan_177 ?_
          refine kk_iload 4 rfl e_X11_laysFan_178 ?_
          refine kk_iload_n 2 rfl e_X11_laysFan_180 ?_
          refine kk_callVip (As := [.int v6_10, .int v2]) (rest := [.int (σ_7.1 0 11), .ref (Z.2.1 6)]) e_X11_laysFan_181 ml_X11_172 ⟨_, _, _, _, rfl, rfl⟩ rfl (kk_fitR (by decide) (by decide)) (Nat.le_of_ble_eq_true rfl) rfl (s_X11_otherEnd Z v6_10 v2 σ_7 _ h) (fun r_15 h => ?_)
          refine kk_iast e_X11_laysFan_184 rfl h.1 ?_
          replace h := h.2
          refine kk_tops (fun σ_16 eσ_16 => ?_)
          replace h := h σ_16 eσ_16
          refine kk_iload_n 3 rfl e_X11_laysFan_185 ?_
          refine kk_iconst ic_1 e_X11_laysFan_186 ?_
          refine kk_aload_n 1 rfl e_X11_laysFan_187 ?_
          refine kk_getr e_X11_laysFan_188 fl_X11_40 rfl rfl ?_
          refine kk_aload_n 1 rfl e_X11_laysFan_191 ?_
          refine kk_geti e_X11_laysFan_192 fl_X11_175 rfl rfl ?_
          refine kk_iald e_X11_laysFan_195 rfl h.1 ?_
          replace h := h.2
          refine kk_ishl e_X11_laysFan_196 ?_
          refine kk_ior e_X11_laysFan_197 ?_
          refine kk_topi (fun v3_17 ev3_17 => ?_)
          replace h := h v3_17 ev3_17
          refine kk_istore_n (lv' := [(3, .int v3_17), (4, .int t_13), (0, .ref (Z.2.1 0)), (2, .int v2), (6, .int v6_10)]) e_X11_laysFan_198 rfl (by decide) rfl ?_
          refine kk_aload_n 2 rfl e_X11_laysFan_199 ?_
          refine kk_dup rfl e_X11_laysFan_200 ?_
          refine kk_geti e_X11_laysFan_201 fl_X11_175 rfl rfl ?_
          refine kk_iconst ic_1 e_X11_laysFan_204 ?_
          refine kk_iadd e_X11_laysFan_205 ?_
          refine kk_puti e_X11_laysFan_206 fl_X11_175 fn_X11_11 rfl rfl ?_
          refine kk_tops (fun σ_18 eσ_18 => ?_)
          replace h := h σ_18 eσ_18
          refine kk_goto e_X11_laysFan_209 ?_
          exact kk_sub [2, 3, 0, 1] rfl (hrec_8 v3_17 t_13 σ_18 h)
        · replace h := h.2 c_19
          refine kk_goto e_X11_laysFan_166 ?_
          exact kk_sub [1, 2, 3, 0] rfl (hrec_8 v3_5 t_13 σ_7 h)
      · intro J_14 hJ_14 h
        refine kk_icmp_eq e_X11_laysFan_151 (fun c_20 => ?_) (fun c_20 => ?_)
        · replace h := h.1 c_20
          refine kk_iconst ic_0 e_X11_laysFan_158 ?_
          exact kk_sub [0, 1, 2, 4] rfl (hJ_14 (0 : Int32) h)
        · replace h := h.2 c_20
          refine kk_iconst ic_1 e_X11_laysFan_154 ?_
          refine kk_goto e_X11_laysFan_155 ?_
          exact kk_sub [0, 1, 2, 4] rfl (hJ_14 (1 : Int32) h)
    · replace h := h.2 c_34
      refine kk_aload_n 0 rfl e_X11_laysFan_62 ?_
      refine kk_iload 5 rfl e_X11_laysFan_63 ?_
      refine kk_iload_n 1 rfl e_X11_laysFan_65 ?_
      refine kk_callVip (As := [.int v7_11, .int v2]) (rest := []) e_X11_laysFan_66 ml_X11_114 ⟨_, _, _, _, rfl, rfl⟩ rfl (kk_fitR (by decide) (by decide)) (Nat.le_of_ble_eq_true rfl) rfl (s_X11_isAt Z v7_11 v2 σ_7 _ h) (fun r_21 h => ?_)
      refine kk_jW1 (P := fun (v6_22 : Int32) => KK Z sh_M RX11 cX11_laysFan 8 none (kk_R 5) (kk_Qv Z sh_M Q) 142 [(0, .ref (Z.2.1 0)), (2, .int v2), (3, .int v3_5), (5, .int v5_9), (6, .int v6_22), (7, .int v7_11)] [] σ_7) h ?_ ?_
      · intro v6_22 h
        refine kk_iinc (lv' := [(7, .int (v7_11 + (1 : Int32))), (0, .ref (Z.2.1 0)), (2, .int v2), (3, .int v3_5), (5, .int v5_9), (6, .int v6_22)]) e_X11_laysFan_142 (j := 5) rfl (ii_1 v7_11) (by decide) rfl ?_
        refine kk_goto e_X11_laysFan_145 ?_
        exact kk_sub [1, 2, 3, 4, 5, 0] rfl (hrec_12 v6_22 (v7_11 + (1 : Int32)) h)
      · intro J_23 hJ_23 h
        refine kk_if_eq e_X11_laysFan_69 (fun c_33 => ?_) (fun c_33 => ?_)
        · replace h := h.1 c_33
          exact kk_sub [0, 1, 2, 3, 4, 5] rfl (hJ_23 v6_10 h)
        · replace h := h.2 c_33
          refine kk_aload_n 0 rfl e_X11_laysFan_72 ?_
          refine kk_getr e_X11_laysFan_73 fl_X11_31 rfl rfl ?_
          refine kk_iload 5 rfl e_X11_laysFan_76 ?_
          refine kk_iald e_X11_laysFan_78 rfl h.1 ?_
          replace h := h.2
          refine kk_if_lt e_X11_laysFan_79 (fun c_32 => ?_) (fun c_32 => ?_)
          · replace h := h.1 c_32
            exact kk_sub [0, 1, 2, 3, 4, 5] rfl (hJ_23 v6_10 h)
          · replace h := h.2 c_32
            refine kk_iload_n 2 rfl e_X11_laysFan_82 ?_
            refine kk_aload_n 0 rfl e_X11_laysFan_83 ?_
            refine kk_iload 5 rfl e_X11_laysFan_84 ?_
            refine kk_iload_n 1 rfl e_X11_laysFan_86 ?_
            refine kk_callVip (As := [.int v7_11, .int v2]) (rest := [.int v3_5]) e_X11_laysFan_87 ml_X11_172 ⟨_, _, _, _, rfl, rfl⟩ rfl (kk_fitR (by decide) (by decide)) (Nat.le_of_ble_eq_true rfl) rfl (s_X11_otherEnd Z v7_11 v2 σ_7 _ h) (fun r_24 h => ?_)
            refine kk_callSip (As := [.int v3_5, .int r_24]) (rest := []) e_X11_laysFan_90 ml_X11_11 rfl (kk_fitR (by decide) (by decide)) (Nat.le_of_ble_eq_true rfl) rfl (s_X11_has Z v3_5 r_24 σ_7 _ h) (fun r_25 h => ?_)
            refine kk_if_ne e_X11_laysFan_93 (fun c_31 => ?_) (fun c_31 => ?_)
            · replace h := h.1 c_31
              exact kk_sub [0, 1, 2, 3, 4, 5] rfl (hJ_23 v6_10 h)
            · replace h := h.2 c_31
              refine kk_aload_n 0 rfl e_X11_laysFan_96 ?_
              refine kk_iload 3 rfl e_X11_laysFan_97 ?_
              refine kk_aload_n 0 rfl e_X11_laysFan_99 ?_
              refine kk_getr e_X11_laysFan_100 fl_X11_31 rfl rfl ?_
              refine kk_iload 5 rfl e_X11_laysFan_103 ?_
              refine kk_iald e_X11_laysFan_105 rfl h.1 ?_
              replace h := h.2
              refine kk_callVip (As := [.int v5_9, .int (kk_rd σ_7 3 v7_11)]) (rest := []) e_X11_laysFan_106 ml_X11_140 ⟨_, _, _, _, rfl, rfl⟩ rfl (kk_fitR (by decide) (by decide)) (Nat.le_of_ble_eq_true rfl) rfl (s_X11_isFreeAt Z v5_9 (kk_rd σ_7 3 v7_11) σ_7 _ h) (fun r_26 h => ?_)
              refine kk_if_ne e_X11_laysFan_109 (fun c_30 => ?_) (fun c_30 => ?_)
              · replace h := h.1 c_30
                refine kk_iload 4 rfl e_X11_laysFan_115 ?_
                refine kk_iconst ic_m1 e_X11_laysFan_117 ?_
                refine kk_jW0 (P := KK Z sh_M RX11 cX11_laysFan 8 none (kk_R 5) (kk_Qv Z sh_M Q) 138 [(0, .ref (Z.2.1 0)), (2, .int v2), (3, .int v3_5), (5, .int v5_9), (7, .int v7_11)] [] σ_7) h ?_ ?_
                · intro h
                  refine kk_iload 4 rfl e_X11_laysFan_138 ?_
                  refine kk_istore (lv' := [(6, .int v7_11), (0, .ref (Z.2.1 0)), (2, .int v2), (3, .int v3_5), (5, .int v5_9), (7, .int v7_11)]) e_X11_laysFan_140 (by decide) rfl ?_
                  exact kk_sub [1, 2, 3, 4, 0, 5] rfl (hJ_23 v7_11 h)
                · intro J_27 hJ_27 h
                  refine kk_icmp_eq e_X11_laysFan_118 (fun c_29 => ?_) (fun c_29 => ?_)
                  · replace h := h.1 c_29
                    exact kk_sub [0, 1, 2, 3, 5] rfl (hJ_27 h)
                  · replace h := h.2 c_29
                    refine kk_aload_n 0 rfl e_X11_laysFan_121 ?_
                    refine kk_getr e_X11_laysFan_122 fl_X11_31 rfl rfl ?_
                    refine kk_iload 5 rfl e_X11_laysFan_125 ?_
                    refine kk_iald e_X11_laysFan_127 rfl h.1 ?_
                    replace h := h.2
                    refine kk_aload_n 0 rfl e_X11_laysFan_128 ?_
                    refine kk_getr e_X11_laysFan_129 fl_X11_31 rfl rfl ?_
                    refine kk_iload 4 rfl e_X11_laysFan_132 ?_
                    refine kk_iald e_X11_laysFan_134 rfl h.1 ?_
                    replace h := h.2
                    refine kk_icmp_ge e_X11_laysFan_135 (fun c_28 => ?_) (fun c_28 => ?_)
                    · replace h := h.1 c_28
                      exact kk_sub [0, 1, 2, 3, 4, 5] rfl (hJ_23 v6_10 h)
                    · replace h := h.2 c_28
                      exact kk_sub [0, 1, 2, 3, 5] rfl (hJ_27 h)
              · replace h := h.2 c_30
                refine kk_goto e_X11_laysFan_112 ?_
                exact kk_sub [0, 1, 2, 3, 4, 5] rfl (hJ_23 v6_10 h)
theorem e_X11_fan_0 : kk_d cX11_fan 0 (.aload_n 0) 1 1 := ⟨by decide +kernel, rfl⟩
theorem e_X11_fan_1 : kk_d cX11_fan 1 (.iload_n 1) 1 2 := ⟨by decide +kernel, rfl⟩
theorem e_X11_fan_2 : kk_d cX11_fan 2 (.invokevirtual 143) 3 5 := ⟨by decide +kernel, rfl⟩
theorem e_X11_fan_5 : kk_dj cX11_fan 5 (.ifCond .eq 17) 3 (17) 8 22 := ⟨by decide +kernel, rfl, by decide⟩
theorem e_X11_fan_22 : kk_d cX11_fan 22 (.iconst (-1)) 1 23 := ⟨by decide +kernel, rfl⟩
theorem e_X11_fan_23 : kk_d cX11_fan 23 .ireturn 1 24 := ⟨by decide +kernel, rfl⟩
theorem e_X11_fan_8 : kk_d cX11_fan 8 (.aload_n 0) 1 9 := ⟨by decide +kernel, rfl⟩
theorem e_X11_fan_9 : kk_d cX11_fan 9 (.iload_n 1) 1 10 := ⟨by decide +kernel, rfl⟩
theorem e_X11_fan_10 : kk_d cX11_fan 10 (.iload_n 2) 1 11 := ⟨by decide +kernel, rfl⟩
theorem e_X11_fan_11 : kk_d cX11_fan 11 (.invokevirtual 114) 3 14 := ⟨by decide +kernel, rfl⟩
theorem e_X11_fan_14 : kk_dj cX11_fan 14 (.ifCond .eq 8) 3 (8) 17 22 := ⟨by decide +kernel, rfl, by decide⟩
theorem e_X11_fan_17 : kk_d cX11_fan 17 (.iload_n 3) 1 18 := ⟨by decide +kernel, rfl⟩
theorem e_X11_fan_18 : kk_d cX11_fan 18 (.iconst (-1)) 1 19 := ⟨by decide +kernel, rfl⟩
theorem e_X11_fan_19 : kk_dj cX11_fan 19 (.if_icmp .ge 5) 3 (5) 22 24 := ⟨by decide +kernel, rfl, by decide⟩
theorem e_X11_fan_24 : kk_d cX11_fan 24 (.aload_n 0) 1 25 := ⟨by decide +kernel, rfl⟩
theorem e_X11_fan_25 : kk_d cX11_fan 25 (.getfield 31) 3 28 := ⟨by decide +kernel, rfl⟩
theorem e_X11_fan_28 : kk_d cX11_fan 28 (.iload_n 1) 1 29 := ⟨by decide +kernel, rfl⟩
theorem e_X11_fan_29 : kk_d cX11_fan 29 .iaload 1 30 := ⟨by decide +kernel, rfl⟩
theorem e_X11_fan_30 : kk_dj cX11_fan 30 (.ifCond .lt 6) 3 (6) 33 36 := ⟨by decide +kernel, rfl, by decide⟩
theorem e_X11_fan_36 : kk_d cX11_fan 36 (.aload_n 0) 1 37 := ⟨by decide +kernel, rfl⟩
theorem e_X11_fan_37 : kk_d cX11_fan 37 (.iload_n 1) 1 38 := ⟨by decide +kernel, rfl⟩
theorem e_X11_fan_38 : kk_d cX11_fan 38 (.iload_n 2) 1 39 := ⟨by decide +kernel, rfl⟩
theorem e_X11_fan_39 : kk_d cX11_fan 39 (.invokevirtual 178) 3 42 := ⟨by decide +kernel, rfl⟩
theorem e_X11_fan_42 : kk_d cX11_fan 42 (.iload_n 3) 1 43 := ⟨by decide +kernel, rfl⟩
theorem e_X11_fan_43 : kk_d cX11_fan 43 (.iconst (-1)) 1 44 := ⟨by decide +kernel, rfl⟩
theorem e_X11_fan_44 : kk_dj cX11_fan 44 (.if_icmp .ne 10) 3 (10) 47 54 := ⟨by decide +kernel, rfl, by decide⟩
theorem e_X11_fan_72 : kk_d cX11_fan 72 .ireturn 1 73 := ⟨by decide +kernel, rfl⟩
theorem e_X11_fan_54 : kk_d cX11_fan 54 (.iload_n 3) 1 55 := ⟨by decide +kernel, rfl⟩
theorem e_X11_fan_55 : kk_d cX11_fan 55 (.aload_n 0) 1 56 := ⟨by decide +kernel, rfl⟩
theorem e_X11_fan_56 : kk_d cX11_fan 56 (.getfield 175) 3 59 := ⟨by decide +kernel, rfl⟩
theorem e_X11_fan_59 : kk_dj cX11_fan 59 (.if_icmp .ge 12) 3 (12) 62 71 := ⟨by decide +kernel, rfl, by decide⟩
theorem e_X11_fan_71 : kk_d cX11_fan 71 (.iconst (-1)) 1 72 := ⟨by decide +kernel, rfl⟩
theorem e_X11_fan_62 : kk_d cX11_fan 62 (.aload_n 0) 1 63 := ⟨by decide +kernel, rfl⟩
theorem e_X11_fan_63 : kk_d cX11_fan 63 (.getfield 40) 3 66 := ⟨by decide +kernel, rfl⟩
theorem e_X11_fan_66 : kk_d cX11_fan 66 (.iload_n 3) 1 67 := ⟨by decide +kernel, rfl⟩
theorem e_X11_fan_67 : kk_d cX11_fan 67 .iaload 1 68 := ⟨by decide +kernel, rfl⟩
theorem e_X11_fan_68 : kk_dj cX11_fan 68 (.goto 4) 3 (4) 71 72 := ⟨by decide +kernel, rfl, by decide⟩
theorem e_X11_fan_47 : kk_d cX11_fan 47 (.aload_n 0) 1 48 := ⟨by decide +kernel, rfl⟩
theorem e_X11_fan_48 : kk_d cX11_fan 48 (.getfield 175) 3 51 := ⟨by decide +kernel, rfl⟩
theorem e_X11_fan_51 : kk_dj cX11_fan 51 (.goto 21) 3 (21) 54 72 := ⟨by decide +kernel, rfl, by decide⟩
theorem e_X11_fan_33 : kk_d cX11_fan 33 (.bipush (-2)) 2 35 := ⟨by decide +kernel, rfl⟩
theorem e_X11_fan_35 : kk_d cX11_fan 35 .ireturn 1 36 := ⟨by decide +kernel, rfl⟩
set_option maxRecDepth 4000 in
theorem s_X11_fan (Z : kk_Z) (v1 : Int32) (v2 : Int32) (v3 : Int32) (σ : kk_St) (Q : Int32 → kk_St → Prop) (h : f_X11_fan v1 v2 v3 σ Q) : kk_M Z sh_M yX11_fan cX11_fan 4 (some .int) (kk_R 6) [.ref (Z.2.1 0), .int v1, .int v2, .int v3] σ (kk_Qi Z sh_M Q) := by
  unfold f_X11_fan at h
  refine kk_met (own := RX11) (by decide) rfl (Nat.le_of_ble_eq_true rfl) rfl ?_
  refine kk_aload_n 0 rfl e_X11_fan_0 ?_
  refine kk_iload_n 1 rfl e_X11_fan_1 ?_
  refine kk_callVip (As := [.int v1]) (rest := []) e_X11_fan_2 ml_X11_143 ⟨_, _, _, _, rfl, rfl⟩ rfl (kk_fitR (by decide) (by decide)) (Nat.le_of_ble_eq_true rfl) rfl (s_X11_isLine Z v1 σ _ h) (fun r_1 h => ?_)
  refine kk_jW0 (P := KK Z sh_M RX11 cX11_fan 4 (some .int) (kk_R 6) (kk_Qi Z sh_M Q) 22 [] [] σ) h ?_ ?_
  · intro h
    refine kk_iconst ic_m1 e_X11_fan_22 ?_
    exact kk_iret e_X11_fan_23 h
  · intro J_2 hJ_2 h
    refine kk_if_eq e_X11_fan_5 (fun c_12 => ?_) (fun c_12 => ?_)
    · replace h := h.1 c_12
      exact kk_sub [] rfl (hJ_2 h)
    · replace h := h.2 c_12
      refine kk_aload_n 0 rfl e_X11_fan_8 ?_
      refine kk_iload_n 1 rfl e_X11_fan_9 ?_
      refine kk_iload_n 2 rfl e_X11_fan_10 ?_
      refine kk_callVip (As := [.int v1, .int v2]) (rest := []) e_X11_fan_11 ml_X11_114 ⟨_, _, _, _, rfl, rfl⟩ rfl (kk_fitR (by decide) (by decide)) (Nat.le_of_ble_eq_true rfl) rfl (s_X11_isAt Z v1 v2 σ _ h) (fun r_3 h => ?_)
      refine kk_if_eq e_X11_fan_14 (fun c_11 => ?_) (fun c_11 => ?_)
      · replace h := h.1 c_11
        exact kk_sub [] rfl (hJ_2 h)
      · replace h := h.2 c_11
        refine kk_iload_n 3 rfl e_X11_fan_17 ?_
        refine kk_iconst ic_m1 e_X11_fan_18 ?_
        refine kk_icmp_ge e_X11_fan_19 (fun c_10 => ?_) (fun c_10 => ?_)
        · replace h := h.1 c_10
          refine kk_aload_n 0 rfl e_X11_fan_24 ?_
          refine kk_getr e_X11_fan_25 fl_X11_31 rfl rfl ?_
          refine kk_iload_n 1 rfl e_X11_fan_28 ?_
          refine kk_iald e_X11_fan_29 rfl h.1 ?_
          replace h := h.2
          refine kk_if_lt e_X11_fan_30 (fun c_9 => ?_) (fun c_9 => ?_)
          · replace h := h.1 c_9
            refine kk_aload_n 0 rfl e_X11_fan_36 ?_
            refine kk_iload_n 1 rfl e_X11_fan_37 ?_
            refine kk_iload_n 2 rfl e_X11_fan_38 ?_
            refine kk_callVv (As := [.int v1, .int v2]) (rest := []) e_X11_fan_39 ml_X11_178 ⟨_, _, _, _, rfl, rfl⟩ rfl (kk_fitR (by decide) (by decide)) (Nat.le_of_ble_eq_true rfl) rfl (s_X11_laysFan Z v1 v2 σ _ h) (fun σ_4 h => ?_)
            refine kk_iload_n 3 rfl e_X11_fan_42 ?_
            refine kk_iconst ic_m1 e_X11_fan_43 ?_
            refine kk_jW1 (P := fun (t_5 : Int32) => KK Z sh_M RX11 cX11_fan 4 (some .int) (kk_R 6) (kk_Qi Z sh_M Q) 72 [] [.int t_5] σ_4) h ?_ ?_
            · intro t_5 h
              exact kk_iret e_X11_fan_72 h
            · intro J_6 hJ_6 h
              refine kk_icmp_ne e_X11_fan_44 (fun c_8 => ?_) (fun c_8 => ?_)
              · replace h := h.1 c_8
                refine kk_iload_n 3 rfl e_X11_fan_54 ?_
                refine kk_aload_n 0 rfl e_X11_fan_55 ?_
                refine kk_geti e_X11_fan_56 fl_X11_175 rfl rfl ?_
                refine kk_icmp_ge e_X11_fan_59 (fun c_7 => ?_) (fun c_7 => ?_)
                · replace h := h.1 c_7
                  refine kk_iconst ic_m1 e_X11_fan_71 ?_
                  exact kk_sub [] rfl (hJ_6 (-1 : Int32) h)
                · replace h := h.2 c_7
                  refine kk_aload_n 0 rfl e_X11_fan_62 ?_
                  refine kk_getr e_X11_fan_63 fl_X11_40 rfl rfl ?_
                  refine kk_iload_n 3 rfl e_X11_fan_66 ?_
                  refine kk_iald e_X11_fan_67 rfl h.1 ?_
                  replace h := h.2
                  refine kk_goto e_X11_fan_68 ?_
                  exact kk_sub [] rfl (hJ_6 (kk_rd σ_4 6 v3) h)
              · replace h := h.2 c_8
                refine kk_aload_n 0 rfl e_X11_fan_47 ?_
                refine kk_geti e_X11_fan_48 fl_X11_175 rfl rfl ?_
                refine kk_goto e_X11_fan_51 ?_
                exact kk_sub [] rfl (hJ_6 (σ_4.1 0 11) h)
          · replace h := h.2 c_9
            refine kk_bipush bp_m2 e_X11_fan_33 ?_
            exact kk_iret e_X11_fan_35 h
        · replace h := h.2 c_10
          exact kk_sub [] rfl (hJ_2 h)
theorem e_X11_first_0 : kk_d cX11_first 0 (.iload_n 1) 1 1 := ⟨by decide +kernel, rfl⟩
theorem e_X11_first_1 : kk_d cX11_first 1 (.iconst 0) 1 2 := ⟨by decide +kernel, rfl⟩
theorem e_X11_first_2 : kk_d cX11_first 2 (.bipush 9) 2 4 := ⟨by decide +kernel, rfl⟩
theorem e_X11_first_4 : kk_d cX11_first 4 (.invokestatic 92) 3 7 := ⟨by decide +kernel, rfl⟩
theorem e_X11_first_7 : kk_dj cX11_first 7 (.ifCond .eq 11) 3 (11) 10 18 := ⟨by decide +kernel, rfl, by decide⟩
theorem e_X11_first_18 : kk_d cX11_first 18 (.iconst (-1)) 1 19 := ⟨by decide +kernel, rfl⟩
theorem e_X11_first_19 : kk_d cX11_first 19 .ireturn 1 20 := ⟨by decide +kernel, rfl⟩
theorem e_X11_first_10 : kk_d cX11_first 10 (.aload_n 0) 1 11 := ⟨by decide +kernel, rfl⟩
theorem e_X11_first_11 : kk_d cX11_first 11 (.iload_n 2) 1 12 := ⟨by decide +kernel, rfl⟩
theorem e_X11_first_12 : kk_d cX11_first 12 (.invokevirtual 143) 3 15 := ⟨by decide +kernel, rfl⟩
theorem e_X11_first_15 : kk_dj cX11_first 15 (.ifCond .ne 5) 3 (5) 18 20 := ⟨by decide +kernel, rfl, by decide⟩
theorem e_X11_first_20 : kk_d cX11_first 20 (.aload_n 0) 1 21 := ⟨by decide +kernel, rfl⟩
theorem e_X11_first_21 : kk_d cX11_first 21 (.aload_n 0) 1 22 := ⟨by decide +kernel, rfl⟩
theorem e_X11_first_22 : kk_d cX11_first 22 (.invokevirtual 120) 3 25 := ⟨by decide +kernel, rfl⟩
theorem e_X11_first_25 : kk_d cX11_first 25 (.iload_n 1) 1 26 := ⟨by decide +kernel, rfl⟩
theorem e_X11_first_26 : kk_d cX11_first 26 (.invokevirtual 247) 3 29 := ⟨by decide +kernel, rfl⟩
theorem e_X11_first_29 : kk_dj cX11_first 29 (.ifCond .eq 12) 3 (12) 32 41 := ⟨by decide +kernel, rfl, by decide⟩
theorem e_X11_first_43 : kk_d cX11_first 43 .ireturn 1 44 := ⟨by decide +kernel, rfl⟩
theorem e_X11_first_41 : kk_d cX11_first 41 (.bipush (-2)) 2 43 := ⟨by decide +kernel, rfl⟩
theorem e_X11_first_32 : kk_d cX11_first 32 (.aload_n 0) 1 33 := ⟨by decide +kernel, rfl⟩
theorem e_X11_first_33 : kk_d cX11_first 33 (.getfield 55) 3 36 := ⟨by decide +kernel, rfl⟩
theorem e_X11_first_36 : kk_d cX11_first 36 (.iload_n 2) 1 37 := ⟨by decide +kernel, rfl⟩
theorem e_X11_first_37 : kk_d cX11_first 37 .iaload 1 38 := ⟨by decide +kernel, rfl⟩
theorem e_X11_first_38 : kk_dj cX11_first 38 (.goto 5) 3 (5) 41 43 := ⟨by decide +kernel, rfl, by decide⟩
set_option maxRecDepth 4000 in
theorem s_X11_first (Z : kk_Z) (v1 : Int32) (v2 : Int32) (σ : kk_St) (Q : Int32 → kk_St → Prop) (h : f_X11_first v1 v2 σ Q) : kk_M Z sh_M yX11_first cX11_first 3 (some .int) (kk_R 8) [.ref (Z.2.1 0), .int v1, .int v2] σ (kk_Qi Z sh_M Q) := by
  unfold f_X11_first at h
  refine kk_met (own := RX11) (by decide) rfl (Nat.le_of_ble_eq_true rfl) rfl ?_
  refine kk_iload_n 1 rfl e_X11_first_0 ?_
  refine kk_iconst ic_0 e_X11_first_1 ?_
  refine kk_bipush bp_9 e_X11_first_2 ?_
  refine kk_callSip (As := [.int v1, .int (0 : Int32), .int (9 : Int32)]) (rest := []) e_X11_first_4 ml_X11_92 rfl (kk_fitR (by decide) (by decide)) (Nat.le_of_ble_eq_true rfl) rfl (s_X11_in Z v1 (0 : Int32) (9 : Int32) σ _ h) (fun r_1 h => ?_)
  refine kk_jW0 (P := KK Z sh_M RX11 cX11_first 3 (some .int) (kk_R 8) (kk_Qi Z sh_M Q) 18 [] [] σ) h ?_ ?_
  · intro h
    refine kk_iconst ic_m1 e_X11_first_18 ?_
    exact kk_iret e_X11_first_19 h
  · intro J_2 hJ_2 h
    refine kk_if_eq e_X11_first_7 (fun c_11 => ?_) (fun c_11 => ?_)
    · replace h := h.1 c_11
      exact kk_sub [] rfl (hJ_2 h)
    · replace h := h.2 c_11
      refine kk_aload_n 0 rfl e_X11_first_10 ?_
      refine kk_iload_n 2 rfl e_X11_first_11 ?_
      refine kk_callVip (As := [.int v2]) (rest := []) e_X11_first_12 ml_X11_143 ⟨_, _, _, _, rfl, rfl⟩ rfl (kk_fitR (by decide) (by decide)) (Nat.le_of_ble_eq_true rfl) rfl (s_X11_isLine Z v2 σ _ h) (fun r_3 h => ?_)
      refine kk_if_ne e_X11_first_15 (fun c_10 => ?_) (fun c_10 => ?_)
      · replace h := h.1 c_10
        refine kk_aload_n 0 rfl e_X11_first_20 ?_
        refine kk_aload_n 0 rfl e_X11_first_21 ?_
        refine kk_callVip (As := []) (rest := [.ref (Z.2.1 0)]) e_X11_first_22 ml_X11_120 ⟨_, _, _, _, rfl, rfl⟩ rfl (kk_fitR (by decide) (by decide)) (Nat.le_of_ble_eq_true rfl) rfl (s_X11_allLines Z σ _ h) (fun r_4 h => ?_)
        refine kk_iload_n 1 rfl e_X11_first_25 ?_
        refine kk_callVi (As := [.int r_4, .int v1]) (rest := []) e_X11_first_26 ml_X11_247 ⟨_, _, _, _, rfl, rfl⟩ rfl (kk_fitR (by decide) (by decide)) (Nat.le_of_ble_eq_true rfl) rfl (s_X11_laysFirst Z r_4 v1 σ _ h) (fun r_5 σ_6 h => ?_)
        refine kk_jW1 (P := fun (t_7 : Int32) => KK Z sh_M RX11 cX11_first 3 (some .int) (kk_R 8) (kk_Qi Z sh_M Q) 43 [] [.int t_7] σ_6) h ?_ ?_
        · intro t_7 h
          exact kk_iret e_X11_first_43 h
        · intro J_8 hJ_8 h
          refine kk_if_eq e_X11_first_29 (fun c_9 => ?_) (fun c_9 => ?_)
          · replace h := h.1 c_9
            refine kk_bipush bp_m2 e_X11_first_41 ?_
            exact kk_sub [] rfl (hJ_8 (-2 : Int32) h)
          · replace h := h.2 c_9
            refine kk_aload_n 0 rfl e_X11_first_32 ?_
            refine kk_getr e_X11_first_33 fl_X11_55 rfl rfl ?_
            refine kk_iload_n 2 rfl e_X11_first_36 ?_
            refine kk_iald e_X11_first_37 rfl h.1 ?_
            replace h := h.2
            refine kk_goto e_X11_first_38 ?_
            exact kk_sub [] rfl (hJ_8 (kk_rd σ_6 11 v2) h)
      · replace h := h.2 c_10
        exact kk_sub [] rfl (hJ_2 h)
theorem e_X11_linesWithin_0 : kk_d cX11_linesWithin 0 (.iconst 0) 1 1 := ⟨by decide +kernel, rfl⟩
theorem e_X11_linesWithin_1 : kk_d cX11_linesWithin 1 (.istore_n 2) 1 2 := ⟨by decide +kernel, rfl⟩
theorem e_X11_linesWithin_2 : kk_d cX11_linesWithin 2 (.iconst 0) 1 3 := ⟨by decide +kernel, rfl⟩
theorem e_X11_linesWithin_3 : kk_d cX11_linesWithin 3 (.istore_n 3) 1 4 := ⟨by decide +kernel, rfl⟩
theorem e_X11_linesWithin_4 : kk_d cX11_linesWithin 4 (.iload_n 3) 1 5 := ⟨by decide +kernel, rfl⟩
theorem e_X11_linesWithin_5 : kk_d cX11_linesWithin 5 (.aload_n 0) 1 6 := ⟨by decide +kernel, rfl⟩
theorem e_X11_linesWithin_6 : kk_d cX11_linesWithin 6 (.getfield 96) 3 9 := ⟨by decide +kernel, rfl⟩
theorem e_X11_linesWithin_9 : kk_dj cX11_linesWithin 9 (.if_icmp .ge 38) 3 (38) 12 47 := ⟨by decide +kernel, rfl, by decide⟩
theorem e_X11_linesWithin_47 : kk_d cX11_linesWithin 47 (.iload_n 2) 1 48 := ⟨by decide +kernel, rfl⟩
theorem e_X11_linesWithin_48 : kk_d cX11_linesWithin 48 .ireturn 1 49 := ⟨by decide +kernel, rfl⟩
theorem e_X11_linesWithin_12 : kk_d cX11_linesWithin 12 (.iload_n 1) 1 13 := ⟨by decide +kernel, rfl⟩
theorem e_X11_linesWithin_13 : kk_d cX11_linesWithin 13 (.aload_n 0) 1 14 := ⟨by decide +kernel, rfl⟩
theorem e_X11_linesWithin_14 : kk_d cX11_linesWithin 14 (.getfield 24) 3 17 := ⟨by decide +kernel, rfl⟩
theorem e_X11_linesWithin_17 : kk_d cX11_linesWithin 17 (.iload_n 3) 1 18 := ⟨by decide +kernel, rfl⟩
theorem e_X11_linesWithin_18 : kk_d cX11_linesWithin 18 .iaload 1 19 := ⟨by decide +kernel, rfl⟩
theorem e_X11_linesWithin_19 : kk_d cX11_linesWithin 19 (.invokestatic 11) 3 22 := ⟨by decide +kernel, rfl⟩
theorem e_X11_linesWithin_22 : kk_dj cX11_linesWithin 22 (.ifCond .eq 19) 3 (19) 25 41 := ⟨by decide +kernel, rfl, by decide⟩
theorem e_X11_linesWithin_41 : kk_d cX11_linesWithin 41 (.iinc 3 1) 3 44 := ⟨by decide +kernel, rfl⟩
theorem e_X11_linesWithin_44 : kk_dj cX11_linesWithin 44 (.goto (-40)) 3 (-40) 47 4 := ⟨by decide +kernel, rfl, by decide⟩
theorem e_X11_linesWithin_25 : kk_d cX11_linesWithin 25 (.iload_n 1) 1 26 := ⟨by decide +kernel, rfl⟩
theorem e_X11_linesWithin_26 : kk_d cX11_linesWithin 26 (.aload_n 0) 1 27 := ⟨by decide +kernel, rfl⟩
theorem e_X11_linesWithin_27 : kk_d cX11_linesWithin 27 (.getfield 28) 3 30 := ⟨by decide +kernel, rfl⟩
theorem e_X11_linesWithin_30 : kk_d cX11_linesWithin 30 (.iload_n 3) 1 31 := ⟨by decide +kernel, rfl⟩
theorem e_X11_linesWithin_31 : kk_d cX11_linesWithin 31 .iaload 1 32 := ⟨by decide +kernel, rfl⟩
theorem e_X11_linesWithin_32 : kk_d cX11_linesWithin 32 (.invokestatic 11) 3 35 := ⟨by decide +kernel, rfl⟩
theorem e_X11_linesWithin_35 : kk_dj cX11_linesWithin 35 (.ifCond .eq 6) 3 (6) 38 41 := ⟨by decide +kernel, rfl, by decide⟩
theorem e_X11_linesWithin_38 : kk_d cX11_linesWithin 38 (.iinc 2 1) 3 41 := ⟨by decide +kernel, rfl⟩
set_option maxRecDepth 4000 in
theorem s_X11_linesWithin (Z : kk_Z) (v1 : Int32) (σ : kk_St) (Q : Int32 → Prop) (h : f_X11_linesWithin v1 σ Q) : kk_M Z sh_M yX11_linesWithin cX11_linesWithin 4 (some .int) (kk_R 3) [.ref (Z.2.1 0), .int v1] σ (kk_Qi Z sh_M (fun r σ' => σ' = σ ∧ Q r)) := by
  unfold f_X11_linesWithin at h
  refine kk_met (own := RX11) (by decide) rfl (Nat.le_of_ble_eq_true rfl) rfl ?_
  refine kk_iconst ic_0 e_X11_linesWithin_0 ?_
  refine kk_istore_n (lv' := [(2, .int (0 : Int32)), (0, .ref (Z.2.1 0)), (1, .int v1)]) e_X11_linesWithin_1 rfl (by decide) rfl ?_
  refine kk_iconst ic_0 e_X11_linesWithin_2 ?_
  refine kk_istore_n (lv' := [(3, .int (0 : Int32)), (2, .int (0 : Int32)), (0, .ref (Z.2.1 0)), (1, .int v1)]) e_X11_linesWithin_3 rfl (by decide) rfl ?_
  refine kk_sub [2, 3, 1, 0] rfl ?_
  refine kk_lpW2 (P := fun (v2_1 : Int32) (v3_2 : Int32) => KK Z sh_M RX11 cX11_linesWithin 4 (some .int) (kk_R 3) (kk_Qi Z sh_M (fun r σ' => σ' = σ ∧ Q r)) 4 [(0, .ref (Z.2.1 0)), (1, .int v1), (2, .int v2_1), (3, .int v3_2)] [] σ) ?_ h
  intro rec_3 hrec_3 v2_1 v3_2 h
  refine kk_iload_n 3 rfl e_X11_linesWithin_4 ?_
  refine kk_aload_n 0 rfl e_X11_linesWithin_5 ?_
  refine kk_geti e_X11_linesWithin_6 fl_X11_96 rfl rfl ?_
  refine kk_icmp_ge e_X11_linesWithin_9 (fun c_10 => ?_) (fun c_10 => ?_)
  · replace h := h.1 c_10
    refine kk_iload_n 2 rfl e_X11_linesWithin_47 ?_
    exact kk_iret e_X11_linesWithin_48 ⟨rfl, h⟩
  · replace h := h.2 c_10
    refine kk_iload_n 1 rfl e_X11_linesWithin_12 ?_
    refine kk_aload_n 0 rfl e_X11_linesWithin_13 ?_
    refine kk_getr e_X11_linesWithin_14 fl_X11_24 rfl rfl ?_
    refine kk_iload_n 3 rfl e_X11_linesWithin_17 ?_
    refine kk_iald e_X11_linesWithin_18 rfl h.1 ?_
    replace h := h.2
    refine kk_callSip (As := [.int v1, .int (kk_rd σ 1 v3_2)]) (rest := []) e_X11_linesWithin_19 ml_X11_11 rfl (kk_fitR (by decide) (by decide)) (Nat.le_of_ble_eq_true rfl) rfl (s_X11_has Z v1 (kk_rd σ 1 v3_2) σ _ h) (fun r_4 h => ?_)
    refine kk_jW1 (P := fun (v2_5 : Int32) => KK Z sh_M RX11 cX11_linesWithin 4 (some .int) (kk_R 3) (kk_Qi Z sh_M (fun r σ' => σ' = σ ∧ Q r)) 41 [(0, .ref (Z.2.1 0)), (1, .int v1), (2, .int v2_5), (3, .int v3_2)] [] σ) h ?_ ?_
    · intro v2_5 h
      refine kk_iinc (lv' := [(3, .int (v3_2 + (1 : Int32))), (0, .ref (Z.2.1 0)), (1, .int v1), (2, .int v2_5)]) e_X11_linesWithin_41 (j := 3) rfl (ii_1 v3_2) (by decide) rfl ?_
      refine kk_goto e_X11_linesWithin_44 ?_
      exact kk_sub [1, 2, 3, 0] rfl (hrec_3 v2_5 (v3_2 + (1 : Int32)) h)
    · intro J_6 hJ_6 h
      refine kk_if_eq e_X11_linesWithin_22 (fun c_9 => ?_) (fun c_9 => ?_)
      · replace h := h.1 c_9
        exact kk_sub [0, 1, 2, 3] rfl (hJ_6 v2_1 h)
      · replace h := h.2 c_9
        refine kk_iload_n 1 rfl e_X11_linesWithin_25 ?_
        refine kk_aload_n 0 rfl e_X11_linesWithin_26 ?_
        refine kk_getr e_X11_linesWithin_27 fl_X11_28 rfl rfl ?_
        refine kk_iload_n 3 rfl e_X11_linesWithin_30 ?_
        refine kk_iald e_X11_linesWithin_31 rfl h.1 ?_
        replace h := h.2
        refine kk_callSip (As := [.int v1, .int (kk_rd σ 2 v3_2)]) (rest := []) e_X11_linesWithin_32 ml_X11_11 rfl (kk_fitR (by decide) (by decide)) (Nat.le_of_ble_eq_true rfl) rfl (s_X11_has Z v1 (kk_rd σ 2 v3_2) σ _ h) (fun r_7 h => ?_)
        refine kk_if_eq e_X11_linesWithin_35 (fun c_8 => ?_) (fun c_8 => ?_)
        · replace h := h.1 c_8
          exact kk_sub [0, 1, 2, 3] rfl (hJ_6 v2_1 h)
        · replace h := h.2 c_8
          refine kk_iinc (lv' := [(2, .int (v2_1 + (1 : Int32))), (0, .ref (Z.2.1 0)), (1, .int v1), (3, .int v3_2)]) e_X11_linesWithin_38 (j := 2) rfl (ii_1 v2_1) (by decide) rfl ?_
          exact kk_sub [1, 2, 0, 3] rfl (hJ_6 (v2_1 + (1 : Int32)) h)
theorem e_X11_fullSet_0 : kk_d cX11_fullSet 0 (.bipush 7) 2 2 := ⟨by decide +kernel, rfl⟩
theorem e_X11_fullSet_2 : kk_d cX11_fullSet 2 (.istore_n 2) 1 3 := ⟨by decide +kernel, rfl⟩
theorem e_X11_fullSet_3 : kk_d cX11_fullSet 3 (.iload_n 2) 1 4 := ⟨by decide +kernel, rfl⟩
theorem e_X11_fullSet_4 : kk_d cX11_fullSet 4 (.aload_n 0) 1 5 := ⟨by decide +kernel, rfl⟩
theorem e_X11_fullSet_5 : kk_d cX11_fullSet 5 (.invokevirtual 238) 3 8 := ⟨by decide +kernel, rfl⟩
theorem e_X11_fullSet_8 : kk_dj cX11_fullSet 8 (.if_icmp .gt 41) 3 (41) 11 49 := ⟨by decide +kernel, rfl, by decide⟩
theorem e_X11_fullSet_49 : kk_d cX11_fullSet 49 (.iconst 0) 1 50 := ⟨by decide +kernel, rfl⟩
theorem e_X11_fullSet_50 : kk_d cX11_fullSet 50 .ireturn 1 51 := ⟨by decide +kernel, rfl⟩
theorem e_X11_fullSet_11 : kk_d cX11_fullSet 11 (.iload_n 2) 1 12 := ⟨by decide +kernel, rfl⟩
theorem e_X11_fullSet_12 : kk_d cX11_fullSet 12 (.invokestatic 160) 3 15 := ⟨by decide +kernel, rfl⟩
theorem e_X11_fullSet_15 : kk_d cX11_fullSet 15 (.istore_n 3) 1 16 := ⟨by decide +kernel, rfl⟩
theorem e_X11_fullSet_16 : kk_d cX11_fullSet 16 (.iload_n 3) 1 17 := ⟨by decide +kernel, rfl⟩
theorem e_X11_fullSet_17 : kk_d cX11_fullSet 17 (.iconst 3) 1 18 := ⟨by decide +kernel, rfl⟩
theorem e_X11_fullSet_18 : kk_dj cX11_fullSet 18 (.if_icmp .lt 25) 3 (25) 21 43 := ⟨by decide +kernel, rfl, by decide⟩
theorem e_X11_fullSet_43 : kk_d cX11_fullSet 43 (.iinc 2 1) 3 46 := ⟨by decide +kernel, rfl⟩
theorem e_X11_fullSet_46 : kk_dj cX11_fullSet 46 (.goto (-43)) 3 (-43) 49 3 := ⟨by decide +kernel, rfl, by decide⟩
theorem e_X11_fullSet_21 : kk_d cX11_fullSet 21 (.iload_n 3) 1 22 := ⟨by decide +kernel, rfl⟩
theorem e_X11_fullSet_22 : kk_d cX11_fullSet 22 (.iconst 2) 1 23 := ⟨by decide +kernel, rfl⟩
theorem e_X11_fullSet_23 : kk_d cX11_fullSet 23 .irem 1 24 := ⟨by decide +kernel, rfl⟩
theorem e_X11_fullSet_24 : kk_d cX11_fullSet 24 (.iconst 1) 1 25 := ⟨by decide +kernel, rfl⟩
theorem e_X11_fullSet_25 : kk_dj cX11_fullSet 25 (.if_icmp .ne 18) 3 (18) 28 43 := ⟨by decide +kernel, rfl, by decide⟩
theorem e_X11_fullSet_28 : kk_d cX11_fullSet 28 (.aload_n 0) 1 29 := ⟨by decide +kernel, rfl⟩
theorem e_X11_fullSet_29 : kk_d cX11_fullSet 29 (.iload_n 2) 1 30 := ⟨by decide +kernel, rfl⟩
theorem e_X11_fullSet_30 : kk_d cX11_fullSet 30 (.invokevirtual 241) 3 33 := ⟨by decide +kernel, rfl⟩
theorem e_X11_fullSet_33 : kk_d cX11_fullSet 33 (.iload_n 1) 1 34 := ⟨by decide +kernel, rfl⟩
theorem e_X11_fullSet_34 : kk_d cX11_fullSet 34 (.iload_n 3) 1 35 := ⟨by decide +kernel, rfl⟩
theorem e_X11_fullSet_35 : kk_d cX11_fullSet 35 (.iconst 2) 1 36 := ⟨by decide +kernel, rfl⟩
theorem e_X11_fullSet_36 : kk_d cX11_fullSet 36 .idiv 1 37 := ⟨by decide +kernel, rfl⟩
theorem e_X11_fullSet_37 : kk_d cX11_fullSet 37 .imul 1 38 := ⟨by decide +kernel, rfl⟩
theorem e_X11_fullSet_38 : kk_dj cX11_fullSet 38 (.if_icmp .le 5) 3 (5) 41 43 := ⟨by decide +kernel, rfl, by decide⟩
theorem e_X11_fullSet_41 : kk_d cX11_fullSet 41 (.iload_n 2) 1 42 := ⟨by decide +kernel, rfl⟩
theorem e_X11_fullSet_42 : kk_d cX11_fullSet 42 .ireturn 1 43 := ⟨by decide +kernel, rfl⟩
set_option maxRecDepth 4000 in
theorem s_X11_fullSet (Z : kk_Z) (v1 : Int32) (σ : kk_St) (Q : Int32 → Prop) (h : f_X11_fullSet v1 σ Q) : kk_M Z sh_M yX11_fullSet cX11_fullSet 4 (some .int) (kk_R 4) [.ref (Z.2.1 0), .int v1] σ (kk_Qi Z sh_M (fun r σ' => σ' = σ ∧ Q r)) := by
  unfold f_X11_fullSet at h
  refine kk_met (own := RX11) (by decide) rfl (Nat.le_of_ble_eq_true rfl) rfl ?_
  refine kk_bipush bp_7 e_X11_fullSet_0 ?_
  refine kk_istore_n (lv' := [(2, .int (7 : Int32)), (0, .ref (Z.2.1 0)), (1, .int v1)]) e_X11_fullSet_2 rfl (by decide) rfl ?_
  refine kk_sub [1, 2, 0] rfl ?_
  refine kk_lpW1 (P := fun (v2_1 : Int32) => KK Z sh_M RX11 cX11_fullSet 4 (some .int) (kk_R 4) (kk_Qi Z sh_M (fun r σ' => σ' = σ ∧ Q r)) 3 [(0, .ref (Z.2.1 0)), (1, .int v1), (2, .int v2_1)] [] σ) ?_ h
  intro rec_2 hrec_2 v2_1 h
  refine kk_iload_n 2 rfl e_X11_fullSet_3 ?_
  refine kk_aload_n 0 rfl e_X11_fullSet_4 ?_
  refine kk_callVip (As := []) (rest := [.int v2_1]) e_X11_fullSet_5 ml_X11_238 ⟨_, _, _, _, rfl, rfl⟩ rfl (kk_fitR (by decide) (by decide)) (Nat.le_of_ble_eq_true rfl) rfl (s_X11_allPosts Z σ _ h) (fun r_3 h => ?_)
  refine kk_icmp_gt e_X11_fullSet_8 (fun c_10 => ?_) (fun c_10 => ?_)
  · replace h := h.1 c_10
    refine kk_iconst ic_0 e_X11_fullSet_49 ?_
    exact kk_iret e_X11_fullSet_50 ⟨rfl, h⟩
  · replace h := h.2 c_10
    refine kk_iload_n 2 rfl e_X11_fullSet_11 ?_
    refine kk_callSip (As := [.int v2_1]) (rest := []) e_X11_fullSet_12 ml_X11_160 rfl (kk_fitR (by decide) (by decide)) (Nat.le_of_ble_eq_true rfl) rfl (s_X11_bitsOf Z v2_1 σ _ h) (fun r_4 h => ?_)
    refine kk_istore_n (lv' := [(3, .int r_4), (0, .ref (Z.2.1 0)), (1, .int v1), (2, .int v2_1)]) e_X11_fullSet_15 rfl (by decide) rfl ?_
    refine kk_iload_n 0 rfl e_X11_fullSet_16 ?_
    refine kk_iconst ic_3 e_X11_fullSet_17 ?_
    refine kk_jW0 (P := KK Z sh_M RX11 cX11_fullSet 4 (some .int) (kk_R 4) (kk_Qi Z sh_M (fun r σ' => σ' = σ ∧ Q r)) 43 [(0, .ref (Z.2.1 0)), (1, .int v1), (2, .int v2_1)] [] σ) h ?_ ?_
    · intro h
      refine kk_iinc (lv' := [(2, .int (v2_1 + (1 : Int32))), (0, .ref (Z.2.1 0)), (1, .int v1)]) e_X11_fullSet_43 (j := 2) rfl (ii_1 v2_1) (by decide) rfl ?_
      refine kk_goto e_X11_fullSet_46 ?_
      exact kk_sub [1, 2, 0] rfl (hrec_2 (v2_1 + (1 : Int32)) h)
    · intro J_5 hJ_5 h
      refine kk_icmp_lt e_X11_fullSet_18 (fun c_9 => ?_) (fun c_9 => ?_)
      · replace h := h.1 c_9
        exact kk_sub [1, 2, 3] rfl (hJ_5 h)
      · replace h := h.2 c_9
        refine kk_iload_n 0 rfl e_X11_fullSet_21 ?_
        refine kk_iconst ic_2 e_X11_fullSet_22 ?_
        refine kk_irem nz_2 e_X11_fullSet_23 ?_
        refine kk_iconst ic_1 e_X11_fullSet_24 ?_
        refine kk_icmp_ne e_X11_fullSet_25 (fun c_8 => ?_) (fun c_8 => ?_)
        · replace h := h.1 c_8
          exact kk_sub [1, 2, 3] rfl (hJ_5 h)
        · replace h := h.2 c_8
          refine kk_aload_n 1 rfl e_X11_fullSet_28 ?_
          refine kk_iload_n 3 rfl e_X11_fullSet_29 ?_
          refine kk_callVip (As := [.int v2_1]) (rest := []) e_X11_fullSet_30 ml_X11_241 ⟨_, _, _, _, rfl, rfl⟩ rfl (kk_fitR (by decide) (by decide)) (Nat.le_of_ble_eq_true rfl) rfl (s_X11_linesWithin Z v2_1 σ _ h) (fun r_6 h => ?_)
          refine kk_iload_n 2 rfl e_X11_fullSet_33 ?_
          refine kk_iload_n 0 rfl e_X11_fullSet_34 ?_
          refine kk_iconst ic_2 e_X11_fullSet_35 ?_
          refine kk_idiv nz_2 e_X11_fullSet_36 ?_
          refine kk_imul e_X11_fullSet_37 ?_
          refine kk_icmp_le e_X11_fullSet_38 (fun c_7 => ?_) (fun c_7 => ?_)
          · replace h := h.1 c_7
            exact kk_sub [1, 2, 3] rfl (hJ_5 h)
          · replace h := h.2 c_7
            refine kk_iload_n 3 rfl e_X11_fullSet_41 ?_
            exact kk_iret e_X11_fullSet_42 ⟨rfl, h⟩
theorem e_X11_leastFreeAt_0 : kk_d cX11_leastFreeAt 0 (.iconst 0) 1 1 := ⟨by decide +kernel, rfl⟩
theorem e_X11_leastFreeAt_1 : kk_d cX11_leastFreeAt 1 (.istore_n 2) 1 2 := ⟨by decide +kernel, rfl⟩
theorem e_X11_leastFreeAt_2 : kk_d cX11_leastFreeAt 2 (.aload_n 0) 1 3 := ⟨by decide +kernel, rfl⟩
theorem e_X11_leastFreeAt_3 : kk_d cX11_leastFreeAt 3 (.iload_n 1) 1 4 := ⟨by decide +kernel, rfl⟩
theorem e_X11_leastFreeAt_4 : kk_d cX11_leastFreeAt 4 (.iload_n 2) 1 5 := ⟨by decide +kernel, rfl⟩
theorem e_X11_leastFreeAt_5 : kk_d cX11_leastFreeAt 5 (.invokevirtual 140) 3 8 := ⟨by decide +kernel, rfl⟩
theorem e_X11_leastFreeAt_8 : kk_dj cX11_leastFreeAt 8 (.ifCond .ne 9) 3 (9) 11 17 := ⟨by decide +kernel, rfl, by decide⟩
theorem e_X11_leastFreeAt_17 : kk_d cX11_leastFreeAt 17 (.iload_n 2) 1 18 := ⟨by decide +kernel, rfl⟩
theorem e_X11_leastFreeAt_18 : kk_d cX11_leastFreeAt 18 .ireturn 1 19 := ⟨by decide +kernel, rfl⟩
theorem e_X11_leastFreeAt_11 : kk_d cX11_leastFreeAt 11 (.iinc 2 1) 3 14 := ⟨by decide +kernel, rfl⟩
theorem e_X11_leastFreeAt_14 : kk_dj cX11_leastFreeAt 14 (.goto (-12)) 3 (-12) 17 2 := ⟨by decide +kernel, rfl, by decide⟩
set_option maxRecDepth 4000 in
theorem s_X11_leastFreeAt (Z : kk_Z) (v1 : Int32) (σ : kk_St) (Q : Int32 → Prop) (h : f_X11_leastFreeAt v1 σ Q) : kk_M Z sh_M yX11_leastFreeAt cX11_leastFreeAt 3 (some .int) (kk_R 5) [.ref (Z.2.1 0), .int v1] σ (kk_Qi Z sh_M (fun r σ' => σ' = σ ∧ Q r)) := by
  unfold f_X11_leastFreeAt at h
  refine kk_met (own := RX11) (by decide) rfl (Nat.le_of_ble_eq_true rfl) rfl ?_
  refine kk_iconst ic_0 e_X11_leastFreeAt_0 ?_
  refine kk_istore_n (lv' := [(2, .int (0 : Int32)), (0, .ref (Z.2.1 0)), (1, .int v1)]) e_X11_leastFreeAt_1 rfl (by decide) rfl ?_
  refine kk_sub [1, 2, 0] rfl ?_
  refine kk_lpW1 (P := fun (v2_1 : Int32) => KK Z sh_M RX11 cX11_leastFreeAt 3 (some .int) (kk_R 5) (kk_Qi Z sh_M (fun r σ' => σ' = σ ∧ Q r)) 2 [(0, .ref (Z.2.1 0)), (1, .int v1), (2, .int v2_1)] [] σ) ?_ h
  intro rec_2 hrec_2 v2_1 h
  refine kk_aload_n 0 rfl e_X11_leastFreeAt_2 ?_
  refine kk_iload_n 1 rfl e_X11_leastFreeAt_3 ?_
  refine kk_iload_n 2 rfl e_X11_leastFreeAt_4 ?_
  refine kk_callVip (As := [.int v1, .int v2_1]) (rest := []) e_X11_leastFreeAt_5 ml_X11_140 ⟨_, _, _, _, rfl, rfl⟩ rfl (kk_fitR (by decide) (by decide)) (Nat.le_of_ble_eq_true rfl) rfl (s_X11_isFreeAt Z v1 v2_1 σ _ h) (fun r_3 h => ?_)
  refine kk_if_ne e_X11_leastFreeAt_8 (fun c_4 => ?_) (fun c_4 => ?_)
  · replace h := h.1 c_4
    refine kk_iload_n 2 rfl e_X11_leastFreeAt_17 ?_
    exact kk_iret e_X11_leastFreeAt_18 ⟨rfl, h⟩
  · replace h := h.2 c_4
    refine kk_iinc (lv' := [(2, .int (v2_1 + (1 : Int32))), (0, .ref (Z.2.1 0)), (1, .int v1)]) e_X11_leastFreeAt_11 (j := 2) rfl (ii_1 v2_1) (by decide) rfl ?_
    refine kk_goto e_X11_leastFreeAt_14 ?_
    exact kk_sub [1, 2, 0] rfl (hrec_2 (v2_1 + (1 : Int32)) h)
theorem e_X11_lineOf_0 : kk_d cX11_lineOf 0 (.iconst 0) 1 1 := ⟨by decide +kernel, rfl⟩
theorem e_X11_lineOf_1 : kk_d cX11_lineOf 1 (.istore_n 3) 1 2 := ⟨by decide +kernel, rfl⟩
theorem e_X11_lineOf_50 : kk_d cX11_lineOf 50 (.iload_n 3) 1 51 := ⟨by decide +kernel, rfl⟩
theorem e_X11_lineOf_51 : kk_d cX11_lineOf 51 .ireturn 1 52 := ⟨by decide +kernel, rfl⟩
theorem e_X11_lineOf_2 : kk_d cX11_lineOf 2 (.iload_n 3) 1 3 := ⟨by decide +kernel, rfl⟩
theorem e_X11_lineOf_3 : kk_d cX11_lineOf 3 (.aload_n 0) 1 4 := ⟨by decide +kernel, rfl⟩
theorem e_X11_lineOf_4 : kk_d cX11_lineOf 4 (.getfield 96) 3 7 := ⟨by decide +kernel, rfl⟩
theorem e_X11_lineOf_7 : kk_dj cX11_lineOf 7 (.if_icmp .ge 51) 3 (51) 10 58 := ⟨by decide +kernel, rfl, by decide⟩
theorem e_X11_lineOf_58 : kk_d cX11_lineOf 58 (.iconst (-1)) 1 59 := ⟨by decide +kernel, rfl⟩
theorem e_X11_lineOf_59 : kk_d cX11_lineOf 59 .ireturn 1 60 := ⟨by decide +kernel, rfl⟩
theorem e_X11_lineOf_10 : kk_d cX11_lineOf 10 (.aload_n 0) 1 11 := ⟨by decide +kernel, rfl⟩
theorem e_X11_lineOf_11 : kk_d cX11_lineOf 11 (.getfield 24) 3 14 := ⟨by decide +kernel, rfl⟩
theorem e_X11_lineOf_14 : kk_d cX11_lineOf 14 (.iload_n 3) 1 15 := ⟨by decide +kernel, rfl⟩
theorem e_X11_lineOf_15 : kk_d cX11_lineOf 15 .iaload 1 16 := ⟨by decide +kernel, rfl⟩
theorem e_X11_lineOf_16 : kk_d cX11_lineOf 16 (.iload_n 1) 1 17 := ⟨by decide +kernel, rfl⟩
theorem e_X11_lineOf_17 : kk_dj cX11_lineOf 17 (.if_icmp .ne 13) 3 (13) 20 30 := ⟨by decide +kernel, rfl, by decide⟩
theorem e_X11_lineOf_30 : kk_d cX11_lineOf 30 (.aload_n 0) 1 31 := ⟨by decide +kernel, rfl⟩
theorem e_X11_lineOf_31 : kk_d cX11_lineOf 31 (.getfield 24) 3 34 := ⟨by decide +kernel, rfl⟩
theorem e_X11_lineOf_34 : kk_d cX11_lineOf 34 (.iload_n 3) 1 35 := ⟨by decide +kernel, rfl⟩
theorem e_X11_lineOf_35 : kk_d cX11_lineOf 35 .iaload 1 36 := ⟨by decide +kernel, rfl⟩
theorem e_X11_lineOf_36 : kk_d cX11_lineOf 36 (.iload_n 2) 1 37 := ⟨by decide +kernel, rfl⟩
theorem e_X11_lineOf_37 : kk_dj cX11_lineOf 37 (.if_icmp .ne 15) 3 (15) 40 52 := ⟨by decide +kernel, rfl, by decide⟩
theorem e_X11_lineOf_52 : kk_d cX11_lineOf 52 (.iinc 3 1) 3 55 := ⟨by decide +kernel, rfl⟩
theorem e_X11_lineOf_55 : kk_dj cX11_lineOf 55 (.goto (-53)) 3 (-53) 58 2 := ⟨by decide +kernel, rfl, by decide⟩
theorem e_X11_lineOf_40 : kk_d cX11_lineOf 40 (.aload_n 0) 1 41 := ⟨by decide +kernel, rfl⟩
theorem e_X11_lineOf_41 : kk_d cX11_lineOf 41 (.getfield 28) 3 44 := ⟨by decide +kernel, rfl⟩
theorem e_X11_lineOf_44 : kk_d cX11_lineOf 44 (.iload_n 3) 1 45 := ⟨by decide +kernel, rfl⟩
theorem e_X11_lineOf_45 : kk_d cX11_lineOf 45 .iaload 1 46 := ⟨by decide +kernel, rfl⟩
theorem e_X11_lineOf_46 : kk_d cX11_lineOf 46 (.iload_n 1) 1 47 := ⟨by decide +kernel, rfl⟩
theorem e_X11_lineOf_47 : kk_dj cX11_lineOf 47 (.if_icmp .ne 5) 3 (5) 50 52 := ⟨by decide +kernel, rfl, by decide⟩
theorem e_X11_lineOf_20 : kk_d cX11_lineOf 20 (.aload_n 0) 1 21 := ⟨by decide +kernel, rfl⟩
theorem e_X11_lineOf_21 : kk_d cX11_lineOf 21 (.getfield 28) 3 24 := ⟨by decide +kernel, rfl⟩
theorem e_X11_lineOf_24 : kk_d cX11_lineOf 24 (.iload_n 3) 1 25 := ⟨by decide +kernel, rfl⟩
theorem e_X11_lineOf_25 : kk_d cX11_lineOf 25 .iaload 1 26 := ⟨by decide +kernel, rfl⟩
theorem e_X11_lineOf_26 : kk_d cX11_lineOf 26 (.iload_n 2) 1 27 := ⟨by decide +kernel, rfl⟩
theorem e_X11_lineOf_27 : kk_dj cX11_lineOf 27 (.if_icmp .eq 23) 3 (23) 30 50 := ⟨by decide +kernel, rfl, by decide⟩
set_option maxRecDepth 4000 in
theorem s_X11_lineOf (Z : kk_Z) (v1 : Int32) (v2 : Int32) (σ : kk_St) (Q : Int32 → Prop) (h : f_X11_lineOf v1 v2 σ Q) : kk_M Z sh_M yX11_lineOf cX11_lineOf 4 (some .int) (kk_R 2) [.ref (Z.2.1 0), .int v1, .int v2] σ (kk_Qi Z sh_M (fun r σ' => σ' = σ ∧ Q r)) := by
  unfold f_X11_lineOf at h
  refine kk_met (own := RX11) (by decide) rfl (Nat.le_of_ble_eq_true rfl) rfl ?_
  refine kk_iconst ic_0 e_X11_lineOf_0 ?_
  refine kk_istore_n (lv' := [(3, .int (0 : Int32)), (0, .ref (Z.2.1 0)), (1, .int v1), (2, .int v2)]) e_X11_lineOf_1 rfl (by decide) rfl ?_
  refine kk_jW1 (P := fun (v3_1 : Int32) => KK Z sh_M RX11 cX11_lineOf 4 (some .int) (kk_R 2) (kk_Qi Z sh_M (fun r σ' => σ' = σ ∧ Q r)) 50 [(3, .int v3_1)] [] σ) h ?_ ?_
  · intro v3_1 h
    refine kk_iload_n 0 rfl e_X11_lineOf_50 ?_
    exact kk_iret e_X11_lineOf_51 ⟨rfl, h⟩
  · intro J_2 hJ_2 h
    refine kk_sub [1, 2, 3, 0] rfl ?_
    refine kk_lpW1 (P := fun (v3_3 : Int32) => KK Z sh_M RX11 cX11_lineOf 4 (some .int) (kk_R 2) (kk_Qi Z sh_M (fun r σ' => σ' = σ ∧ Q r)) 2 [(0, .ref (Z.2.1 0)), (1, .int v1), (2, .int v2), (3, .int v3_3)] [] σ) ?_ h
    intro rec_4 hrec_4 v3_3 h
    refine kk_iload_n 3 rfl e_X11_lineOf_2 ?_
    refine kk_aload_n 0 rfl e_X11_lineOf_3 ?_
    refine kk_geti e_X11_lineOf_4 fl_X11_96 rfl rfl ?_
    refine kk_icmp_ge e_X11_lineOf_7 (fun c_11 => ?_) (fun c_11 => ?_)
    · replace h := h.1 c_11
      refine kk_iconst ic_m1 e_X11_lineOf_58 ?_
      exact kk_iret e_X11_lineOf_59 ⟨rfl, h⟩
    · replace h := h.2 c_11
      refine kk_aload_n 0 rfl e_X11_lineOf_10 ?_
      refine kk_getr e_X11_lineOf_11 fl_X11_24 rfl rfl ?_
      refine kk_iload_n 3 rfl e_X11_lineOf_14 ?_
      refine kk_iald e_X11_lineOf_15 rfl h.1 ?_
      replace h := h.2
      refine kk_iload_n 1 rfl e_X11_lineOf_16 ?_
      refine kk_jW0 (P := KK Z sh_M RX11 cX11_lineOf 4 (some .int) (kk_R 2) (kk_Qi Z sh_M (fun r σ' => σ' = σ ∧ Q r)) 30 [(0, .ref (Z.2.1 0)), (1, .int v1), (2, .int v2), (3, .int v3_3)] [] σ) h ?_ ?_
      · intro h
        refine kk_aload_n 0 rfl e_X11_lineOf_30 ?_
        refine kk_getr e_X11_lineOf_31 fl_X11_24 rfl rfl ?_
        refine kk_iload_n 3 rfl e_X11_lineOf_34 ?_
        refine kk_iald e_X11_lineOf_35 rfl h.1 ?_
        replace h := h.2
        refine kk_iload_n 2 rfl e_X11_lineOf_36 ?_
        refine kk_jW0 (P := KK Z sh_M RX11 cX11_lineOf 4 (some .int) (kk_R 2) (kk_Qi Z sh_M (fun r σ' => σ' = σ ∧ Q r)) 52 [(0, .ref (Z.2.1 0)), (1, .int v1), (2, .int v2), (3, .int v3_3)] [] σ) h ?_ ?_
        · intro h
          refine kk_iinc (lv' := [(3, .int (v3_3 + (1 : Int32))), (0, .ref (Z.2.1 0)), (1, .int v1), (2, .int v2)]) e_X11_lineOf_52 (j := 3) rfl (ii_1 v3_3) (by decide) rfl ?_
          refine kk_goto e_X11_lineOf_55 ?_
          exact kk_sub [1, 2, 3, 0] rfl (hrec_4 (v3_3 + (1 : Int32)) h)
        · intro J_6 hJ_6 h
          refine kk_icmp_ne e_X11_lineOf_37 (fun c_8 => ?_) (fun c_8 => ?_)
          · replace h := h.1 c_8
            exact kk_sub [0, 1, 2, 3] rfl (hJ_6 h)
          · replace h := h.2 c_8
            refine kk_aload_n 0 rfl e_X11_lineOf_40 ?_
            refine kk_getr e_X11_lineOf_41 fl_X11_28 rfl rfl ?_
            refine kk_iload_n 3 rfl e_X11_lineOf_44 ?_
            refine kk_iald e_X11_lineOf_45 rfl h.1 ?_
            replace h := h.2
            refine kk_iload_n 1 rfl e_X11_lineOf_46 ?_
            refine kk_icmp_ne e_X11_lineOf_47 (fun c_7 => ?_) (fun c_7 => ?_)
            · replace h := h.1 c_7
              exact kk_sub [0, 1, 2, 3] rfl (hJ_6 h)
            · replace h := h.2 c_7
              exact kk_sub [3] rfl (hJ_2 v3_3 h)
      · intro J_5 hJ_5 h
        refine kk_icmp_ne e_X11_lineOf_17 (fun c_10 => ?_) (fun c_10 => ?_)
        · replace h := h.1 c_10
          exact kk_sub [0, 1, 2, 3] rfl (hJ_5 h)
        · replace h := h.2 c_10
          refine kk_aload_n 0 rfl e_X11_lineOf_20 ?_
          refine kk_getr e_X11_lineOf_21 fl_X11_28 rfl rfl ?_
          refine kk_iload_n 3 rfl e_X11_lineOf_24 ?_
          refine kk_iald e_X11_lineOf_25 rfl h.1 ?_
          replace h := h.2
          refine kk_iload_n 2 rfl e_X11_lineOf_26 ?_
          refine kk_icmp_eq e_X11_lineOf_27 (fun c_9 => ?_) (fun c_9 => ?_)
          · replace h := h.1 c_9
            exact kk_sub [3] rfl (hJ_2 v3_3 h)
          · replace h := h.2 c_9
            exact kk_sub [0, 1, 2, 3] rfl (hJ_5 h)
theorem e_X11_grows_0 : kk_d cX11_grows 0 (.aload_n 0) 1 1 := ⟨by decide +kernel, rfl⟩
theorem e_X11_grows_1 : kk_d cX11_grows 1 (.getfield 24) 3 4 := ⟨by decide +kernel, rfl⟩
theorem e_X11_grows_4 : kk_d cX11_grows 4 (.iload_n 1) 1 5 := ⟨by decide +kernel, rfl⟩
theorem e_X11_grows_5 : kk_d cX11_grows 5 .iaload 1 6 := ⟨by decide +kernel, rfl⟩
theorem e_X11_grows_6 : kk_d cX11_grows 6 (.istore_n 2) 1 7 := ⟨by decide +kernel, rfl⟩
theorem e_X11_grows_7 : kk_d cX11_grows 7 (.aload_n 0) 1 8 := ⟨by decide +kernel, rfl⟩
theorem e_X11_grows_8 : kk_d cX11_grows 8 (.iload_n 1) 1 9 := ⟨by decide +kernel, rfl⟩
theorem e_X11_grows_9 : kk_d cX11_grows 9 (.iload_n 2) 1 10 := ⟨by decide +kernel, rfl⟩
theorem e_X11_grows_10 : kk_d cX11_grows 10 (.invokevirtual 178) 3 13 := ⟨by decide +kernel, rfl⟩
theorem e_X11_grows_13 : kk_d cX11_grows 13 (.aload_n 0) 1 14 := ⟨by decide +kernel, rfl⟩
theorem e_X11_grows_14 : kk_d cX11_grows 14 (.iload_n 2) 1 15 := ⟨by decide +kernel, rfl⟩
theorem e_X11_grows_15 : kk_d cX11_grows 15 (.invokevirtual 182) 3 18 := ⟨by decide +kernel, rfl⟩
theorem e_X11_grows_18 : kk_d cX11_grows 18 (.istore_n 3) 1 19 := ⟨by decide +kernel, rfl⟩
theorem e_X11_grows_19 : kk_d cX11_grows 19 (.aload_n 0) 1 20 := ⟨by decide +kernel, rfl⟩
theorem e_X11_grows_20 : kk_d cX11_grows 20 (.aload_n 0) 1 21 := ⟨by decide +kernel, rfl⟩
theorem e_X11_grows_21 : kk_d cX11_grows 21 (.getfield 40) 3 24 := ⟨by decide +kernel, rfl⟩
theorem e_X11_grows_24 : kk_d cX11_grows 24 (.aload_n 0) 1 25 := ⟨by decide +kernel, rfl⟩
theorem e_X11_grows_25 : kk_d cX11_grows 25 (.getfield 175) 3 28 := ⟨by decide +kernel, rfl⟩
theorem e_X11_grows_28 : kk_d cX11_grows 28 (.iconst 1) 1 29 := ⟨by decide +kernel, rfl⟩
theorem e_X11_grows_29 : kk_d cX11_grows 29 .isub 1 30 := ⟨by decide +kernel, rfl⟩
theorem e_X11_grows_30 : kk_d cX11_grows 30 .iaload 1 31 := ⟨by decide +kernel, rfl⟩
theorem e_X11_grows_31 : kk_d cX11_grows 31 (.invokevirtual 182) 3 34 := ⟨by decide +kernel, rfl⟩
theorem e_X11_grows_34 : kk_d cX11_grows 34 (.istore 4) 2 36 := ⟨by decide +kernel, rfl⟩
theorem e_X11_grows_36 : kk_d cX11_grows 36 (.aload_n 0) 1 37 := ⟨by decide +kernel, rfl⟩
theorem e_X11_grows_37 : kk_d cX11_grows 37 (.getfield 43) 3 40 := ⟨by decide +kernel, rfl⟩
theorem e_X11_grows_40 : kk_d cX11_grows 40 (.iconst 4) 1 41 := ⟨by decide +kernel, rfl⟩
theorem e_X11_grows_41 : kk_d cX11_grows 41 (.iconst 0) 1 42 := ⟨by decide +kernel, rfl⟩
theorem e_X11_grows_42 : kk_d cX11_grows 42 .iastore 1 43 := ⟨by decide +kernel, rfl⟩
theorem e_X11_grows_43 : kk_d cX11_grows 43 (.aload_n 0) 1 44 := ⟨by decide +kernel, rfl⟩
theorem e_X11_grows_44 : kk_d cX11_grows 44 (.iload_n 2) 1 45 := ⟨by decide +kernel, rfl⟩
theorem e_X11_grows_45 : kk_d cX11_grows 45 (.iload 4) 2 47 := ⟨by decide +kernel, rfl⟩
theorem e_X11_grows_47 : kk_d cX11_grows 47 (.invokevirtual 140) 3 50 := ⟨by decide +kernel, rfl⟩
theorem e_X11_grows_50 : kk_dj cX11_grows 50 (.ifCond .ne 40) 3 (40) 53 90 := ⟨by decide +kernel, rfl, by decide⟩
theorem e_X11_grows_90 : kk_d cX11_grows 90 (.iconst 0) 1 91 := ⟨by decide +kernel, rfl⟩
theorem e_X11_grows_91 : kk_d cX11_grows 91 (.istore 5) 2 93 := ⟨by decide +kernel, rfl⟩
theorem e_X11_grows_148 : kk_d cX11_grows 148 (.iconst 0) 1 149 := ⟨by decide +kernel, rfl⟩
theorem e_X11_grows_149 : kk_d cX11_grows 149 (.istore 6) 2 151 := ⟨by decide +kernel, rfl⟩
theorem e_X11_grows_151 : kk_d cX11_grows 151 (.iload 6) 2 153 := ⟨by decide +kernel, rfl⟩
theorem e_X11_grows_153 : kk_d cX11_grows 153 (.iload 5) 2 155 := ⟨by decide +kernel, rfl⟩
theorem e_X11_grows_155 : kk_dj cX11_grows 155 (.if_icmp .ge 45) 3 (45) 158 200 := ⟨by decide +kernel, rfl, by decide⟩
theorem e_X11_grows_200 : kk_d cX11_grows 200 (.aload_n 0) 1 201 := ⟨by decide +kernel, rfl⟩
theorem e_X11_grows_201 : kk_d cX11_grows 201 (.getfield 31) 3 204 := ⟨by decide +kernel, rfl⟩
theorem e_X11_grows_204 : kk_d cX11_grows 204 (.aload_n 0) 1 205 := ⟨by decide +kernel, rfl⟩
theorem e_X11_grows_205 : kk_d cX11_grows 205 (.iload_n 2) 1 206 := ⟨by decide +kernel, rfl⟩
theorem e_X11_grows_206 : kk_d cX11_grows 206 (.aload_n 0) 1 207 := ⟨by decide +kernel, rfl⟩
theorem e_X11_grows_207 : kk_d cX11_grows 207 (.getfield 40) 3 210 := ⟨by decide +kernel, rfl⟩
theorem e_X11_grows_210 : kk_d cX11_grows 210 (.iload 5) 2 212 := ⟨by decide +kernel, rfl⟩
theorem e_X11_grows_212 : kk_d cX11_grows 212 .iaload 1 213 := ⟨by decide +kernel, rfl⟩
theorem e_X11_grows_213 : kk_d cX11_grows 213 (.invokevirtual 110) 3 216 := ⟨by decide +kernel, rfl⟩
theorem e_X11_grows_216 : kk_d cX11_grows 216 (.iload 4) 2 218 := ⟨by decide +kernel, rfl⟩
theorem e_X11_grows_218 : kk_d cX11_grows 218 .iastore 1 219 := ⟨by decide +kernel, rfl⟩
theorem e_X11_grows_219 : kk_d cX11_grows 219 (.aload_n 0) 1 220 := ⟨by decide +kernel, rfl⟩
theorem e_X11_grows_220 : kk_d cX11_grows 220 (.getfield 43) 3 223 := ⟨by decide +kernel, rfl⟩
theorem e_X11_grows_223 : kk_d cX11_grows 223 (.iconst 0) 1 224 := ⟨by decide +kernel, rfl⟩
theorem e_X11_grows_224 : kk_d cX11_grows 224 (.iload_n 3) 1 225 := ⟨by decide +kernel, rfl⟩
theorem e_X11_grows_225 : kk_d cX11_grows 225 .iastore 1 226 := ⟨by decide +kernel, rfl⟩
theorem e_X11_grows_226 : kk_d cX11_grows 226 (.aload_n 0) 1 227 := ⟨by decide +kernel, rfl⟩
theorem e_X11_grows_227 : kk_d cX11_grows 227 (.getfield 43) 3 230 := ⟨by decide +kernel, rfl⟩
theorem e_X11_grows_230 : kk_d cX11_grows 230 (.iconst 1) 1 231 := ⟨by decide +kernel, rfl⟩
theorem e_X11_grows_231 : kk_d cX11_grows 231 (.iload 4) 2 233 := ⟨by decide +kernel, rfl⟩
theorem e_X11_grows_233 : kk_d cX11_grows 233 .iastore 1 234 := ⟨by decide +kernel, rfl⟩
theorem e_X11_grows_234 : kk_d cX11_grows 234 (.aload_n 0) 1 235 := ⟨by decide +kernel, rfl⟩
theorem e_X11_grows_235 : kk_d cX11_grows 235 (.getfield 43) 3 238 := ⟨by decide +kernel, rfl⟩
theorem e_X11_grows_238 : kk_d cX11_grows 238 (.iconst 2) 1 239 := ⟨by decide +kernel, rfl⟩
theorem e_X11_grows_239 : kk_d cX11_grows 239 (.aload_n 0) 1 240 := ⟨by decide +kernel, rfl⟩
theorem e_X11_grows_240 : kk_d cX11_grows 240 (.getfield 175) 3 243 := ⟨by decide +kernel, rfl⟩
theorem e_X11_grows_243 : kk_d cX11_grows 243 .iastore 1 244 := ⟨by decide +kernel, rfl⟩
theorem e_X11_grows_244 : kk_d cX11_grows 244 (.aload_n 0) 1 245 := ⟨by decide +kernel, rfl⟩
theorem e_X11_grows_245 : kk_d cX11_grows 245 (.getfield 43) 3 248 := ⟨by decide +kernel, rfl⟩
theorem e_X11_grows_248 : kk_d cX11_grows 248 (.iconst 3) 1 249 := ⟨by decide +kernel, rfl⟩
theorem e_X11_grows_249 : kk_d cX11_grows 249 (.iload 5) 2 251 := ⟨by decide +kernel, rfl⟩
theorem e_X11_grows_251 : kk_d cX11_grows 251 .iastore 1 252 := ⟨by decide +kernel, rfl⟩
theorem e_X11_grows_252 : kk_d cX11_grows 252 (.aload_n 0) 1 253 := ⟨by decide +kernel, rfl⟩
theorem e_X11_grows_253 : kk_d cX11_grows 253 (.iconst 1) 1 254 := ⟨by decide +kernel, rfl⟩
theorem e_X11_grows_254 : kk_d cX11_grows 254 (.putfield 103) 3 257 := ⟨by decide +kernel, rfl⟩
theorem e_X11_grows_257 : kk_d cX11_grows 257 (.aload_n 0) 1 258 := ⟨by decide +kernel, rfl⟩
theorem e_X11_grows_258 : kk_d cX11_grows 258 (.getfield 31) 3 261 := ⟨by decide +kernel, rfl⟩
theorem e_X11_grows_261 : kk_d cX11_grows 261 (.iload_n 1) 1 262 := ⟨by decide +kernel, rfl⟩
theorem e_X11_grows_262 : kk_d cX11_grows 262 .iaload 1 263 := ⟨by decide +kernel, rfl⟩
theorem e_X11_grows_263 : kk_d cX11_grows 263 .ireturn 1 264 := ⟨by decide +kernel, rfl⟩
theorem e_X11_grows_158 : kk_d cX11_grows 158 (.aload_n 0) 1 159 := ⟨by decide +kernel, rfl⟩
theorem e_X11_grows_159 : kk_d cX11_grows 159 (.getfield 31) 3 162 := ⟨by decide +kernel, rfl⟩
theorem e_X11_grows_162 : kk_d cX11_grows 162 (.aload_n 0) 1 163 := ⟨by decide +kernel, rfl⟩
theorem e_X11_grows_163 : kk_d cX11_grows 163 (.iload_n 2) 1 164 := ⟨by decide +kernel, rfl⟩
theorem e_X11_grows_164 : kk_d cX11_grows 164 (.aload_n 0) 1 165 := ⟨by decide +kernel, rfl⟩
theorem e_X11_grows_165 : kk_d cX11_grows 165 (.getfield 40) 3 168 := ⟨by decide +kernel, rfl⟩
theorem e_X11_grows_168 : kk_d cX11_grows 168 (.iload 6) 2 170 := ⟨by decide +kernel, rfl⟩
theorem e_X11_grows_170 : kk_d cX11_grows 170 .iaload 1 171 := ⟨by decide +kernel, rfl⟩
theorem e_X11_grows_171 : kk_d cX11_grows 171 (.invokevirtual 110) 3 174 := ⟨by decide +kernel, rfl⟩
theorem e_X11_grows_174 : kk_d cX11_grows 174 (.aload_n 0) 1 175 := ⟨by decide +kernel, rfl⟩
theorem e_X11_grows_175 : kk_d cX11_grows 175 (.getfield 31) 3 178 := ⟨by decide +kernel, rfl⟩
theorem e_X11_grows_178 : kk_d cX11_grows 178 (.aload_n 0) 1 179 := ⟨by decide +kernel, rfl⟩
theorem e_X11_grows_179 : kk_d cX11_grows 179 (.iload_n 2) 1 180 := ⟨by decide +kernel, rfl⟩
theorem e_X11_grows_180 : kk_d cX11_grows 180 (.aload_n 0) 1 181 := ⟨by decide +kernel, rfl⟩
theorem e_X11_grows_181 : kk_d cX11_grows 181 (.getfield 40) 3 184 := ⟨by decide +kernel, rfl⟩
theorem e_X11_grows_184 : kk_d cX11_grows 184 (.iload 6) 2 186 := ⟨by decide +kernel, rfl⟩
theorem e_X11_grows_186 : kk_d cX11_grows 186 (.iconst 1) 1 187 := ⟨by decide +kernel, rfl⟩
theorem e_X11_grows_187 : kk_d cX11_grows 187 .iadd 1 188 := ⟨by decide +kernel, rfl⟩
theorem e_X11_grows_188 : kk_d cX11_grows 188 .iaload 1 189 := ⟨by decide +kernel, rfl⟩
theorem e_X11_grows_189 : kk_d cX11_grows 189 (.invokevirtual 110) 3 192 := ⟨by decide +kernel, rfl⟩
theorem e_X11_grows_192 : kk_d cX11_grows 192 .iaload 1 193 := ⟨by decide +kernel, rfl⟩
theorem e_X11_grows_193 : kk_d cX11_grows 193 .iastore 1 194 := ⟨by decide +kernel, rfl⟩
theorem e_X11_grows_194 : kk_d cX11_grows 194 (.iinc 6 1) 3 197 := ⟨by decide +kernel, rfl⟩
theorem e_X11_grows_197 : kk_dj cX11_grows 197 (.goto (-46)) 3 (-46) 200 151 := ⟨by decide +kernel, rfl, by decide⟩
theorem e_X11_grows_93 : kk_d cX11_grows 93 (.aload_n 0) 1 94 := ⟨by decide +kernel, rfl⟩
theorem e_X11_grows_94 : kk_d cX11_grows 94 (.aload_n 0) 1 95 := ⟨by decide +kernel, rfl⟩
theorem e_X11_grows_95 : kk_d cX11_grows 95 (.getfield 40) 3 98 := ⟨by decide +kernel, rfl⟩
theorem e_X11_grows_98 : kk_d cX11_grows 98 (.iload 5) 2 100 := ⟨by decide +kernel, rfl⟩
theorem e_X11_grows_100 : kk_d cX11_grows 100 .iaload 1 101 := ⟨by decide +kernel, rfl⟩
theorem e_X11_grows_101 : kk_d cX11_grows 101 (.iload 4) 2 103 := ⟨by decide +kernel, rfl⟩
theorem e_X11_grows_103 : kk_d cX11_grows 103 (.invokevirtual 140) 3 106 := ⟨by decide +kernel, rfl⟩
theorem e_X11_grows_106 : kk_dj cX11_grows 106 (.ifCond .ne 42) 3 (42) 109 148 := ⟨by decide +kernel, rfl, by decide⟩
theorem e_X11_grows_109 : kk_d cX11_grows 109 (.aload_n 0) 1 110 := ⟨by decide +kernel, rfl⟩
theorem e_X11_grows_110 : kk_d cX11_grows 110 (.aload_n 0) 1 111 := ⟨by decide +kernel, rfl⟩
theorem e_X11_grows_111 : kk_d cX11_grows 111 (.getfield 40) 3 114 := ⟨by decide +kernel, rfl⟩
theorem e_X11_grows_114 : kk_d cX11_grows 114 (.iload 5) 2 116 := ⟨by decide +kernel, rfl⟩
theorem e_X11_grows_116 : kk_d cX11_grows 116 .iaload 1 117 := ⟨by decide +kernel, rfl⟩
theorem e_X11_grows_117 : kk_d cX11_grows 117 (.aload_n 0) 1 118 := ⟨by decide +kernel, rfl⟩
theorem e_X11_grows_118 : kk_d cX11_grows 118 (.getfield 31) 3 121 := ⟨by decide +kernel, rfl⟩
theorem e_X11_grows_121 : kk_d cX11_grows 121 (.aload_n 0) 1 122 := ⟨by decide +kernel, rfl⟩
theorem e_X11_grows_122 : kk_d cX11_grows 122 (.iload_n 2) 1 123 := ⟨by decide +kernel, rfl⟩
theorem e_X11_grows_123 : kk_d cX11_grows 123 (.aload_n 0) 1 124 := ⟨by decide +kernel, rfl⟩
theorem e_X11_grows_124 : kk_d cX11_grows 124 (.getfield 40) 3 127 := ⟨by decide +kernel, rfl⟩
theorem e_X11_grows_127 : kk_d cX11_grows 127 (.iload 5) 2 129 := ⟨by decide +kernel, rfl⟩
theorem e_X11_grows_129 : kk_d cX11_grows 129 (.iconst 1) 1 130 := ⟨by decide +kernel, rfl⟩
theorem e_X11_grows_130 : kk_d cX11_grows 130 .iadd 1 131 := ⟨by decide +kernel, rfl⟩
theorem e_X11_grows_131 : kk_d cX11_grows 131 .iaload 1 132 := ⟨by decide +kernel, rfl⟩
theorem e_X11_grows_132 : kk_d cX11_grows 132 (.invokevirtual 110) 3 135 := ⟨by decide +kernel, rfl⟩
theorem e_X11_grows_135 : kk_d cX11_grows 135 .iaload 1 136 := ⟨by decide +kernel, rfl⟩
theorem e_X11_grows_136 : kk_d cX11_grows 136 (.invokevirtual 140) 3 139 := ⟨by decide +kernel, rfl⟩
theorem e_X11_grows_139 : kk_dj cX11_grows 139 (.ifCond .eq 9) 3 (9) 142 148 := ⟨by decide +kernel, rfl, by decide⟩
theorem e_X11_grows_142 : kk_d cX11_grows 142 (.iinc 5 1) 3 145 := ⟨by decide +kernel, rfl⟩
theorem e_X11_grows_145 : kk_dj cX11_grows 145 (.goto (-52)) 3 (-52) 148 93 := ⟨by decide +kernel, rfl, by decide⟩
theorem e_X11_grows_53 : kk_d cX11_grows 53 (.aload_n 0) 1 54 := ⟨by decide +kernel, rfl⟩
theorem e_X11_grows_54 : kk_d cX11_grows 54 (.aload_n 0) 1 55 := ⟨by decide +kernel, rfl⟩
theorem e_X11_grows_55 : kk_d cX11_grows 55 (.getfield 31) 3 58 := ⟨by decide +kernel, rfl⟩
theorem e_X11_grows_58 : kk_d cX11_grows 58 (.iload_n 2) 1 59 := ⟨by decide +kernel, rfl⟩
theorem e_X11_grows_59 : kk_d cX11_grows 59 (.iload_n 3) 1 60 := ⟨by decide +kernel, rfl⟩
theorem e_X11_grows_60 : kk_d cX11_grows 60 (.iload 4) 2 62 := ⟨by decide +kernel, rfl⟩
theorem e_X11_grows_62 : kk_d cX11_grows 62 (.invokevirtual 152) 3 65 := ⟨by decide +kernel, rfl⟩
theorem e_X11_grows_65 : kk_d cX11_grows 65 (.istore 5) 2 67 := ⟨by decide +kernel, rfl⟩
theorem e_X11_grows_67 : kk_d cX11_grows 67 (.aload_n 0) 1 68 := ⟨by decide +kernel, rfl⟩
theorem e_X11_grows_68 : kk_d cX11_grows 68 (.getfield 31) 3 71 := ⟨by decide +kernel, rfl⟩
theorem e_X11_grows_71 : kk_d cX11_grows 71 (.iload 5) 2 73 := ⟨by decide +kernel, rfl⟩
theorem e_X11_grows_73 : kk_d cX11_grows 73 (.iload_n 3) 1 74 := ⟨by decide +kernel, rfl⟩
theorem e_X11_grows_74 : kk_d cX11_grows 74 (.iload 4) 2 76 := ⟨by decide +kernel, rfl⟩
theorem e_X11_grows_76 : kk_d cX11_grows 76 (.invokestatic 156) 3 79 := ⟨by decide +kernel, rfl⟩
theorem e_X11_grows_79 : kk_d cX11_grows 79 (.aload_n 0) 1 80 := ⟨by decide +kernel, rfl⟩
theorem e_X11_grows_80 : kk_d cX11_grows 80 (.getfield 43) 3 83 := ⟨by decide +kernel, rfl⟩
theorem e_X11_grows_83 : kk_d cX11_grows 83 (.iconst 4) 1 84 := ⟨by decide +kernel, rfl⟩
theorem e_X11_grows_84 : kk_d cX11_grows 84 (.iload 5) 2 86 := ⟨by decide +kernel, rfl⟩
theorem e_X11_grows_86 : kk_d cX11_grows 86 (.invokestatic 160) 3 89 := ⟨by decide +kernel, rfl⟩
theorem e_X11_grows_89 : kk_d cX11_grows 89 .iastore 1 90 := ⟨by decide +kernel, rfl⟩
set_option maxRecDepth 4000 in
theorem s_X11_grows (Z : kk_Z) (v1 : Int32) (σ : kk_St) (Q : Int32 → kk_St → Prop) (h : f_X11_grows v1 σ Q) : kk_M Z sh_M yX11_grows cX11_grows 7 (some .int) (kk_R 6) [.ref (Z.2.1 0), .int v1] σ (kk_Qi Z sh_M Q) := by
  unfold f_X11_grows at h
  refine kk_met (own := RX11) (by decide) rfl (Nat.le_of_ble_eq_true rfl) rfl ?_
  refine kk_aload_n 0 rfl e_X11_grows_0 ?_
  refine kk_getr e_X11_grows_1 fl_X11_24 rfl rfl ?_
  refine kk_iload_n 1 rfl e_X11_grows_4 ?_
  refine kk_iald e_X11_grows_5 rfl h.1 ?_
  replace h := h.2
  refine kk_istore_n (lv' := [(2, .int (kk_rd σ 1 v1)), (0, .ref (Z.2.1 0)), (1, .int v1)]) e_X11_grows_6 rfl (by decide) rfl ?_
  refine kk_aload_n 1 rfl e_X11_grows_7 ?_
  refine kk_iload_n 2 rfl e_X11_grows_8 ?_
  refine kk_iload_n 0 rfl e_X11_grows_9 ?_
  refine kk_callVv (As := [.int v1, .int (kk_rd σ 1 v1)]) (rest := []) e_X11_grows_10 ml_X11_178 ⟨_, _, _, _, rfl, rfl⟩ rfl (kk_fitR (by decide) (by decide)) (Nat.le_of_ble_eq_true rfl) rfl (s_X11_laysFan Z v1 (kk_rd σ 1 v1) σ _ h) (fun σ_1 h => ?_)
  refine kk_aload_n 1 rfl e_X11_grows_13 ?_
  refine kk_iload_n 0 rfl e_X11_grows_14 ?_
  refine kk_callVip (As := [.int (kk_rd σ 1 v1)]) (rest := []) e_X11_grows_15 ml_X11_182 ⟨_, _, _, _, rfl, rfl⟩ rfl (kk_fitR (by decide) (by decide)) (Nat.le_of_ble_eq_true rfl) rfl (s_X11_leastFreeAt Z (kk_rd σ 1 v1) σ_1 _ h) (fun r_2 h => ?_)
  refine kk_istore_n (lv' := [(3, .int r_2), (2, .int (kk_rd σ 1 v1)), (0, .ref (Z.2.1 0)), (1, .int v1)]) e_X11_grows_18 rfl (by decide) rfl ?_
  refine kk_aload_n 2 rfl e_X11_grows_19 ?_
  refine kk_aload_n 2 rfl e_X11_grows_20 ?_
  refine kk_getr e_X11_grows_21 fl_X11_40 rfl rfl ?_
  refine kk_aload_n 2 rfl e_X11_grows_24 ?_
  refine kk_geti e_X11_grows_25 fl_X11_175 rfl rfl ?_
  refine kk_iconst ic_1 e_X11_grows_28 ?_
  refine kk_isub e_X11_grows_29 ?_
  refine kk_iald e_X11_grows_30 rfl h.1 ?_
  replace h := h.2
  refine kk_callVip (As := [.int (kk_rd σ_1 6 ((σ_1.1 0 11) - (1 : Int32)))]) (rest := []) e_X11_grows_31 ml_X11_182 ⟨_, _, _, _, rfl, rfl⟩ rfl (kk_fitR (by decide) (by decide)) (Nat.le_of_ble_eq_true rfl) rfl (s_X11_leastFreeAt Z (kk_rd σ_1 6 ((σ_1.1 0 11) - (1 : Int32))) σ_1 _ h) (fun r_3 h => ?_)
  refine kk_istore (lv' := [(4, .int r_3), (3, .int r_2), (2, .int (kk_rd σ 1 v1)), (0, .ref (Z.2.1 0)), (1, .int v1)]) e_X11_grows_34 (by decide) rfl ?_
  refine kk_aload_n 3 rfl e_X11_grows_36 ?_
  refine kk_getr e_X11_grows_37 fl_X11_43 rfl rfl ?_
  refine kk_iconst ic_4 e_X11_grows_40 ?_
  refine kk_iconst ic_0 e_X11_grows_41 ?_
  refine kk_iast e_X11_grows_42 rfl h.1 ?_
  replace h := h.2
  refine kk_tops (fun σ_4 eσ_4 => ?_)
  replace h := h σ_4 eσ_4
  refine kk_aload_n 3 rfl e_X11_grows_43 ?_
  refine kk_iload_n 2 rfl e_X11_grows_44 ?_
  refine kk_iload 0 rfl e_X11_grows_45 ?_
  refine kk_callVip (As := [.int (kk_rd σ 1 v1), .int r_3]) (rest := []) e_X11_grows_47 ml_X11_140 ⟨_, _, _, _, rfl, rfl⟩ rfl (kk_fitR (by decide) (by decide)) (Nat.le_of_ble_eq_true rfl) rfl (s_X11_isFreeAt Z (kk_rd σ 1 v1) r_3 σ_4 _ h) (fun r_5 h => ?_)
  refine kk_jW1 (P := fun (σ_6 : kk_St) => KK Z sh_M RX11 cX11_grows 7 (some .int) (kk_R 6) (kk_Qi Z sh_M Q) 90 [(0, .ref (Z.2.1 0)), (1, .int v1), (2, .int (kk_rd σ 1 v1)), (3, .int r_2), (4, .int r_3)] [] σ_6) h ?_ ?_
  · intro σ_6 h
    refine kk_iconst ic_0 e_X11_grows_90 ?_
    refine kk_istore (lv' := [(5, .int (0 : Int32)), (0, .ref (Z.2.1 0)), (1, .int v1), (2, .int (kk_rd σ 1 v1)), (3, .int r_2), (4, .int r_3)]) e_X11_grows_91 (by decide) rfl ?_
    refine kk_jW1 (P := fun (v5_8 : Int32) => KK Z sh_M RX11 cX11_grows 7 (some .int) (kk_R 6) (kk_Qi Z sh_M Q) 148 [(0, .ref (Z.2.1 0)), (1, .int v1), (2, .int (kk_rd σ 1 v1)), (3, .int r_2), (4, .int r_3), (5, .int v5_8)] [] σ_6) h ?_ ?_
    · intro v5_8 h
      refine kk_iconst ic_0 e_X11_grows_148 ?_
      refine kk_istore (lv' := [(6, .int (0 : Int32)), (0, .ref (Z.2.1 0)), (1, .int v1), (2, .int (kk_rd σ 1 v1)), (3, .int r_2), (4, .int r_3), (5, .int v5_8)]) e_X11_grows_149 (by decide) rfl ?_
      refine kk_sub [1, 2, 3, 4, 5, 6, 0] rfl ?_
      refine kk_lpW2 (P := fun (v6_10 : Int32) (σ_11 : kk_St) => KK Z sh_M RX11 cX11_grows 7 (some .int) (kk_R 6) (kk_Qi Z sh_M Q) 151 [(0, .ref (Z.2.1 0)), (1, .int v1), (2, .int (kk_rd σ 1 v1)), (3, .int r_2), (4, .int r_3), (5, .int v5_8), (6, .int v6_10)] [] σ_11) ?_ h
      intro rec_12 hrec_12 v6_10 σ_11 h
      refine kk_iload 6 rfl e_X11_grows_151 ?_
      refine kk_iload 5 rfl e_X11_grows_153 ?_
      refine kk_icmp_ge e_X11_grows_155 (fun c_23 => ?_) (fun c_23 => ?_)
      · replace h := h.1 c_23
        refine kk_aload_n 0 rfl e_X11_grows_200 ?_
        refine kk_getr e_X11_grows_201 fl_X11_31 rfl rfl ?_
        refine kk_aload_n 0 rfl e_X11_grows_204 ?_
        refine kk_iload_n 2 rfl e_X11_grows_205 ?_
        refine kk_aload_n 0 rfl e_X11_grows_206 ?_
        refine kk_getr e_X11_grows_207 fl_X11_40 rfl rfl ?_
        refine kk_iload 5 rfl e_X11_grows_210 ?_
        refine kk_iald e_X11_grows_212 rfl h.1 ?_
        replace h := h.2
        refine kk_callVip (As := [.int (kk_rd σ 1 v1), .int (kk_rd σ_11 6 v5_8)]) (rest := [.ref (Z.2.1 3)]) e_X11_grows_213 ml_X11_110 ⟨_, _, _, _, rfl, rfl⟩ rfl (kk_fitR (by decide) (by decide)) (Nat.le_of_ble_eq_true rfl) rfl (s_X11_lineOf Z (kk_rd σ 1 v1) (kk_rd σ_11 6 v5_8) σ_11 _ h) (fun r_13 h => ?_)
        refine kk_iload 4 rfl e_X11_grows_216 ?_
        refine kk_iast e_X11_grows_218 rfl h.1 ?_
        replace h := h.2
        refine kk_tops (fun σ_14 eσ_14 => ?_)
        replace h := h σ_14 eσ_14
        refine kk_aload_n 0 rfl e_X11_grows_219 ?_
        refine kk_getr e_X11_grows_220 fl_X11_43 rfl rfl ?_
        refine kk_iconst ic_0 e_X11_grows_223 ?_
        refine kk_iload_n 3 rfl e_X11_grows_224 ?_
        refine kk_iast e_X11_grows_225 rfl h.1 ?_
        replace h := h.2
        refine kk_tops (fun σ_15 eσ_15 => ?_)
        replace h := h σ_15 eσ_15
        refine kk_aload_n 0 rfl e_X11_grows_226 ?_
        refine kk_getr e_X11_grows_227 fl_X11_43 rfl rfl ?_
        refine kk_iconst ic_1 e_X11_grows_230 ?_
        refine kk_iload 4 rfl e_X11_grows_231 ?_
        refine kk_iast e_X11_grows_233 rfl h.1 ?_
        replace h := h.2
        refine kk_tops (fun σ_16 eσ_16 => ?_)
        replace h := h σ_16 eσ_16
        refine kk_aload_n 0 rfl e_X11_grows_234 ?_
        refine kk_getr e_X11_grows_235 fl_X11_43 rfl rfl ?_
        refine kk_iconst ic_2 e_X11_grows_238 ?_
        refine kk_aload_n 0 rfl e_X11_grows_239 ?_
        refine kk_geti e_X11_grows_240 fl_X11_175 rfl rfl ?_
        refine kk_iast e_X11_grows_243 rfl h.1 ?_
        replace h := h.2
        refine kk_tops (fun σ_17 eσ_17 => ?_)
        replace h := h σ_17 eσ_17
        refine kk_aload_n 0 rfl e_X11_grows_244 ?_
        refine kk_getr e_X11_grows_245 fl_X11_43 rfl rfl ?_
        refine kk_iconst ic_3 e_X11_grows_248 ?_
        refine kk_iload 5 rfl e_X11_grows_249 ?_
        refine kk_iast e_X11_grows_251 rfl h.1 ?_
        replace h := h.2
        refine kk_tops (fun σ_18 eσ_18 => ?_)
        replace h := h σ_18 eσ_18
        refine kk_aload_n 0 rfl e_X11_grows_252 ?_
        refine kk_iconst ic_1 e_X11_grows_253 ?_
        refine kk_putz e_X11_grows_254 fl_X11_103 fn_X11_12 (Or.inr rfl) rfl rfl ?_
        refine kk_tops (fun σ_19 eσ_19 => ?_)
        replace h := h σ_19 eσ_19
        refine kk_aload_n 0 rfl e_X11_grows_257 ?_
        refine kk_getr e_X11_grows_258 fl_X11_31 rfl rfl ?_
        refine kk_iload_n 1 rfl e_X11_grows_261 ?_
        refine kk_iald e_X11_grows_262 rfl h.1 ?_
        replace h := h.2
        exact kk_iret e_X11_grows_263 h
      · replace h := h.2 c_23
        refine kk_aload_n 0 rfl e_X11_grows_158 ?_
        refine kk_getr e_X11_grows_159 fl_X11_31 rfl rfl ?_
        refine kk_aload_n 0 rfl e_X11_grows_162 ?_
        refine kk_iload_n 2 rfl e_X11_grows_163 ?_
        refine kk_aload_n 0 rfl e_X11_grows_164 ?_
        refine kk_getr e_X11_grows_165 fl_X11_40 rfl rfl ?_
        refine kk_iload 6 rfl e_X11_grows_168 ?_
        refine kk_iald e_X11_grows_170 rfl h.1 ?_
        replace h := h.2
        refine kk_callVip (As := [.int (kk_rd σ 1 v1), .int (kk_rd σ_11 6 v6_10)]) (rest := [.ref (Z.2.1 3)]) e_X11_grows_171 ml_X11_110 ⟨_, _, _, _, rfl, rfl⟩ rfl (kk_fitR (by decide) (by decide)) (Nat.le_of_ble_eq_true rfl) rfl (s_X11_lineOf Z (kk_rd σ 1 v1) (kk_rd σ_11 6 v6_10) σ_11 _ h) (fun r_20 h => ?_)
        refine kk_aload_n 0 rfl e_X11_grows_174 ?_
        refine kk_getr e_X11_grows_175 fl_X11_31 rfl rfl ?_
        refine kk_aload_n 0 rfl e_X11_grows_178 ?_
        refine kk_iload_n 2 rfl e_X11_grows_179 ?_
        refine kk_aload_n 0 rfl e_X11_grows_180 ?_
        refine kk_getr e_X11_grows_181 fl_X11_40 rfl rfl ?_
        refine kk_iload 6 rfl e_X11_grows_184 ?_
        refine kk_iconst ic_1 e_X11_grows_186 ?_
        refine kk_iadd e_X11_grows_187 ?_
        refine kk_iald e_X11_grows_188 rfl h.1 ?_
        replace h := h.2
        refine kk_callVip (As := [.int (kk_rd σ 1 v1), .int (kk_rd σ_11 6 (v6_10 + (1 : Int32)))]) (rest := [.ref (Z.2.1 3), .int r_20, .ref (Z.2.1 3)]) e_X11_grows_189 ml_X11_110 ⟨_, _, _, _, rfl, rfl⟩ rfl (kk_fitR (by decide) (by decide)) (Nat.le_of_ble_eq_true rfl) rfl (s_X11_lineOf Z (kk_rd σ 1 v1) (kk_rd σ_11 6 (v6_10 + (1 : Int32))) σ_11 _ h) (fun r_21 h => ?_)
        refine kk_iald e_X11_grows_192 rfl h.1 ?_
        replace h := h.2
        refine kk_iast e_X11_grows_193 rfl h.1 ?_
        replace h := h.2
        refine kk_tops (fun σ_22 eσ_22 => ?_)
        replace h := h σ_22 eσ_22
        refine kk_iinc (lv' := [(6, .int (v6_10 + (1 : Int32))), (0, .ref (Z.2.1 0)), (1, .int v1), (2, .int (kk_rd σ 1 v1)), (3, .int r_2), (4, .int r_3), (5, .int v5_8)]) e_X11_grows_194 (j := 6) rfl (ii_1 v6_10) (by decide) rfl ?_
        refine kk_goto e_X11_grows_197 ?_
        exact kk_sub [1, 2, 3, 4, 5, 6, 0] rfl (hrec_12 (v6_10 + (1 : Int32)) σ_22 h)
    · intro J_9 hJ_9 h
      refine kk_sub [1, 2, 3, 4, 5, 0] rfl ?_
      refine kk_lpW1 (P := fun (v5_24 : Int32) => KK Z sh_M RX11 cX11_grows 7 (some .int) (kk_R 6) (kk_Qi Z sh_M Q) 93 [(0, .ref (Z.2.1 0)), (1, .int v1), (2, .int (kk_rd σ 1 v1)), (3, .int r_2), (4, .int r_3), (5, .int v5_24)] [] σ_6) ?_ h
      intro rec_25 hrec_25 v5_24 h
      refine kk_aload_n 0 rfl e_X11_grows_93 ?_
      refine kk_aload_n 0 rfl e_X11_grows_94 ?_
      refine kk_getr e_X11_grows_95 fl_X11_40 rfl rfl ?_
      refine kk_iload 5 rfl e_X11_grows_98 ?_
      refine kk_iald e_X11_grows_100 rfl h.1 ?_
      replace h := h.2
      refine kk_iload 4 rfl e_X11_grows_101 ?_
      refine kk_callVip (As := [.int (kk_rd σ_6 6 v5_24), .int r_3]) (rest := []) e_X11_grows_103 ml_X11_140 ⟨_, _, _, _, rfl, rfl⟩ rfl (kk_fitR (by decide) (by decide)) (Nat.le_of_ble_eq_true rfl) rfl (s_X11_isFreeAt Z (kk_rd σ_6 6 v5_24) r_3 σ_6 _ h) (fun r_26 h => ?_)
      refine kk_if_ne e_X11_grows_106 (fun c_30 => ?_) (fun c_30 => ?_)
      · replace h := h.1 c_30
        exact kk_sub [0, 1, 2, 3, 4, 5] rfl (hJ_9 v5_24 h)
      · replace h := h.2 c_30
        refine kk_aload_n 0 rfl e_X11_grows_109 ?_
        refine kk_aload_n 0 rfl e_X11_grows_110 ?_
        refine kk_getr e_X11_grows_111 fl_X11_40 rfl rfl ?_
        refine kk_iload 5 rfl e_X11_grows_114 ?_
        refine kk_iald e_X11_grows_116 rfl h.1 ?_
        replace h := h.2
        refine kk_aload_n 0 rfl e_X11_grows_117 ?_
        refine kk_getr e_X11_grows_118 fl_X11_31 rfl rfl ?_
        refine kk_aload_n 0 rfl e_X11_grows_121 ?_
        refine kk_iload_n 2 rfl e_X11_grows_122 ?_
        refine kk_aload_n 0 rfl e_X11_grows_123 ?_
        refine kk_getr e_X11_grows_124 fl_X11_40 rfl rfl ?_
        refine kk_iload 5 rfl e_X11_grows_127 ?_
        refine kk_iconst ic_1 e_X11_grows_129 ?_
        refine kk_iadd e_X11_grows_130 ?_
        refine kk_iald e_X11_grows_131 rfl h.1 ?_
        replace h := h.2
        refine kk_callVip (As := [.int (kk_rd σ 1 v1), .int (kk_rd σ_6 6 (v5_24 + (1 : Int32)))]) (rest := [.ref (Z.2.1 3), .int (kk_rd σ_6 6 v5_24), .ref (Z.2.1 0)]) e_X11_grows_132 ml_X11_110 ⟨_, _, _, _, rfl, rfl⟩ rfl (kk_fitR (by decide) (by decide)) (Nat.le_of_ble_eq_true rfl) rfl (s_X11_lineOf Z (kk_rd σ 1 v1) (kk_rd σ_6 6 (v5_24 + (1 : Int32))) σ_6 _ h) (fun r_27 h => ?_)
        refine kk_iald e_X11_grows_135 rfl h.1 ?_
        replace h := h.2
        refine kk_callVip (As := [.int (kk_rd σ_6 6 v5_24), .int (kk_rd σ_6 3 r_27)]) (rest := []) e_X11_grows_136 ml_X11_140 ⟨_, _, _, _, rfl, rfl⟩ rfl (kk_fitR (by decide) (by decide)) (Nat.le_of_ble_eq_true rfl) rfl (s_X11_isFreeAt Z (kk_rd σ_6 6 v5_24) (kk_rd σ_6 3 r_27) σ_6 _ h) (fun r_28 h => ?_)
        refine kk_if_eq e_X11_grows_139 (fun c_29 => ?_) (fun c_29 => ?_)
        · replace h := h.1 c_29
          exact kk_sub [0, 1, 2, 3, 4, 5] rfl (hJ_9 v5_24 h)
        · replace h := h.2 c_29
          refine kk_iinc (lv' := [(5, .int (v5_24 + (1 : Int32))), (0, .ref (Z.2.1 0)), (1, .int v1), (2, .int (kk_rd σ 1 v1)), (3, .int r_2), (4, .int r_3)]) e_X11_grows_142 (j := 5) rfl (ii_1 v5_24) (by decide) rfl ?_
          refine kk_goto e_X11_grows_145 ?_
          exact kk_sub [1, 2, 3, 4, 5, 0] rfl (hrec_25 (v5_24 + (1 : Int32)) h)
  · intro J_7 hJ_7 h
    refine kk_if_ne e_X11_grows_50 (fun c_36 => ?_) (fun c_36 => ?_)
    · replace h := h.1 c_36
      exact kk_sub [3, 4, 2, 1, 0] rfl (hJ_7 σ_4 h)
    · replace h := h.2 c_36
      refine kk_aload_n 3 rfl e_X11_grows_53 ?_
      refine kk_aload_n 3 rfl e_X11_grows_54 ?_
      refine kk_getr e_X11_grows_55 fl_X11_31 rfl rfl ?_
      refine kk_iload_n 2 rfl e_X11_grows_58 ?_
      refine kk_iload_n 1 rfl e_X11_grows_59 ?_
      refine kk_iload 0 rfl e_X11_grows_60 ?_
      refine kk_callVi (As := [.ref (Z.2.1 3), .int (kk_rd σ 1 v1), .int r_2, .int r_3]) (rest := []) e_X11_grows_62 ml_X11_152 ⟨_, _, _, _, rfl, rfl⟩ rfl (kk_fitR (by decide) (by decide)) (Nat.le_of_ble_eq_true rfl) rfl (s_X11_chainIn Z 3 20 (kk_rd σ 1 v1) r_2 r_3 σ_4 _ rfl h) (fun r_31 σ_32 h => ?_)
      refine kk_istore (lv' := [(5, .int r_31), (4, .int r_3), (3, .int r_2), (2, .int (kk_rd σ 1 v1)), (0, .ref (Z.2.1 0)), (1, .int v1)]) e_X11_grows_65 (by decide) rfl ?_
      refine kk_aload_n 4 rfl e_X11_grows_67 ?_
      refine kk_getr e_X11_grows_68 fl_X11_31 rfl rfl ?_
      refine kk_iload 0 rfl e_X11_grows_71 ?_
      refine kk_iload_n 2 rfl e_X11_grows_73 ?_
      refine kk_iload 1 rfl e_X11_grows_74 ?_
      refine kk_callSv (As := [.ref (Z.2.1 3), .int r_31, .int r_2, .int r_3]) (rest := []) e_X11_grows_76 ml_X11_156 rfl (kk_fitR (by decide) (by decide)) (Nat.le_of_ble_eq_true rfl) rfl (s_X11_flips Z 3 20 r_31 r_2 r_3 σ_32 _ rfl h) (fun σ_33 h => ?_)
      refine kk_aload_n 4 rfl e_X11_grows_79 ?_
      refine kk_getr e_X11_grows_80 fl_X11_43 rfl rfl ?_
      refine kk_iconst ic_4 e_X11_grows_83 ?_
      refine kk_iload 0 rfl e_X11_grows_84 ?_
      refine kk_callSip (As := [.int r_31]) (rest := [.int (4 : Int32), .ref (Z.2.1 7)]) e_X11_grows_86 ml_X11_160 rfl (kk_fitR (by decide) (by decide)) (Nat.le_of_ble_eq_true rfl) rfl (s_X11_bitsOf Z r_31 σ_33 _ h) (fun r_34 h => ?_)
      refine kk_iast e_X11_grows_89 rfl h.1 ?_
      replace h := h.2
      refine kk_tops (fun σ_35 eσ_35 => ?_)
      replace h := h σ_35 eσ_35
      exact kk_sub [4, 5, 3, 2, 1] rfl (hJ_7 σ_35 h)
theorem e_X11_grow_0 : kk_d cX11_grow 0 (.aload_n 0) 1 1 := ⟨by decide +kernel, rfl⟩
theorem e_X11_grow_1 : kk_d cX11_grow 1 (.iload_n 1) 1 2 := ⟨by decide +kernel, rfl⟩
theorem e_X11_grow_2 : kk_d cX11_grow 2 (.invokevirtual 143) 3 5 := ⟨by decide +kernel, rfl⟩
theorem e_X11_grow_5 : kk_dj cX11_grow 5 (.ifCond .ne 5) 3 (5) 8 10 := ⟨by decide +kernel, rfl, by decide⟩
theorem e_X11_grow_10 : kk_d cX11_grow 10 (.aload_n 0) 1 11 := ⟨by decide +kernel, rfl⟩
theorem e_X11_grow_11 : kk_d cX11_grow 11 (.getfield 31) 3 14 := ⟨by decide +kernel, rfl⟩
theorem e_X11_grow_14 : kk_d cX11_grow 14 (.iload_n 1) 1 15 := ⟨by decide +kernel, rfl⟩
theorem e_X11_grow_15 : kk_d cX11_grow 15 .iaload 1 16 := ⟨by decide +kernel, rfl⟩
theorem e_X11_grow_16 : kk_dj cX11_grow 16 (.ifCond .lt 8) 3 (8) 19 24 := ⟨by decide +kernel, rfl, by decide⟩
theorem e_X11_grow_29 : kk_d cX11_grow 29 .ireturn 1 30 := ⟨by decide +kernel, rfl⟩
theorem e_X11_grow_24 : kk_d cX11_grow 24 (.aload_n 0) 1 25 := ⟨by decide +kernel, rfl⟩
theorem e_X11_grow_25 : kk_d cX11_grow 25 (.iload_n 1) 1 26 := ⟨by decide +kernel, rfl⟩
theorem e_X11_grow_26 : kk_d cX11_grow 26 (.invokevirtual 185) 3 29 := ⟨by decide +kernel, rfl⟩
theorem e_X11_grow_19 : kk_d cX11_grow 19 (.bipush (-2)) 2 21 := ⟨by decide +kernel, rfl⟩
theorem e_X11_grow_21 : kk_dj cX11_grow 21 (.goto 8) 3 (8) 24 29 := ⟨by decide +kernel, rfl, by decide⟩
theorem e_X11_grow_8 : kk_d cX11_grow 8 (.iconst (-1)) 1 9 := ⟨by decide +kernel, rfl⟩
theorem e_X11_grow_9 : kk_d cX11_grow 9 .ireturn 1 10 := ⟨by decide +kernel, rfl⟩
set_option maxRecDepth 4000 in
theorem s_X11_grow (Z : kk_Z) (v1 : Int32) (σ : kk_St) (Q : Int32 → kk_St → Prop) (h : f_X11_grow v1 σ Q) : kk_M Z sh_M yX11_grow cX11_grow 2 (some .int) (kk_R 7) [.ref (Z.2.1 0), .int v1] σ (kk_Qi Z sh_M Q) := by
  unfold f_X11_grow at h
  refine kk_met (own := RX11) (by decide) rfl (Nat.le_of_ble_eq_true rfl) rfl ?_
  refine kk_aload_n 0 rfl e_X11_grow_0 ?_
  refine kk_iload_n 1 rfl e_X11_grow_1 ?_
  refine kk_callVip (As := [.int v1]) (rest := []) e_X11_grow_2 ml_X11_143 ⟨_, _, _, _, rfl, rfl⟩ rfl (kk_fitR (by decide) (by decide)) (Nat.le_of_ble_eq_true rfl) rfl (s_X11_isLine Z v1 σ _ h) (fun r_1 h => ?_)
  refine kk_if_ne e_X11_grow_5 (fun c_8 => ?_) (fun c_8 => ?_)
  · replace h := h.1 c_8
    refine kk_aload_n 0 rfl e_X11_grow_10 ?_
    refine kk_getr e_X11_grow_11 fl_X11_31 rfl rfl ?_
    refine kk_iload_n 1 rfl e_X11_grow_14 ?_
    refine kk_iald e_X11_grow_15 rfl h.1 ?_
    replace h := h.2
    refine kk_jW2 (P := fun (t_2 : Int32) (σ_3 : kk_St) => KK Z sh_M RX11 cX11_grow 2 (some .int) (kk_R 7) (kk_Qi Z sh_M Q) 29 [] [.int t_2] σ_3) h ?_ ?_
    · intro t_2 σ_3 h
      exact kk_iret e_X11_grow_29 h
    · intro J_4 hJ_4 h
      refine kk_if_lt e_X11_grow_16 (fun c_7 => ?_) (fun c_7 => ?_)
      · replace h := h.1 c_7
        refine kk_aload_n 0 rfl e_X11_grow_24 ?_
        refine kk_iload_n 1 rfl e_X11_grow_25 ?_
        refine kk_callVi (As := [.int v1]) (rest := []) e_X11_grow_26 ml_X11_185 ⟨_, _, _, _, rfl, rfl⟩ rfl (kk_fitR (by decide) (by decide)) (Nat.le_of_ble_eq_true rfl) rfl (s_X11_grows Z v1 σ _ h) (fun r_5 σ_6 h => ?_)
        exact kk_sub [] rfl (hJ_4 r_5 σ_6 h)
      · replace h := h.2 c_7
        refine kk_bipush bp_m2 e_X11_grow_19 ?_
        refine kk_goto e_X11_grow_21 ?_
        exact kk_sub [] rfl (hJ_4 (-2 : Int32) σ h)
  · replace h := h.2 c_8
    refine kk_iconst ic_m1 e_X11_grow_8 ?_
    exact kk_iret e_X11_grow_9 h
theorem e_X11_growAll_0 : kk_d cX11_growAll 0 (.iconst 0) 1 1 := ⟨by decide +kernel, rfl⟩
theorem e_X11_growAll_1 : kk_d cX11_growAll 1 (.istore_n 1) 1 2 := ⟨by decide +kernel, rfl⟩
theorem e_X11_growAll_2 : kk_d cX11_growAll 2 (.iconst 0) 1 3 := ⟨by decide +kernel, rfl⟩
theorem e_X11_growAll_3 : kk_d cX11_growAll 3 (.istore_n 2) 1 4 := ⟨by decide +kernel, rfl⟩
theorem e_X11_growAll_4 : kk_d cX11_growAll 4 (.iload_n 2) 1 5 := ⟨by decide +kernel, rfl⟩
theorem e_X11_growAll_5 : kk_d cX11_growAll 5 (.aload_n 0) 1 6 := ⟨by decide +kernel, rfl⟩
theorem e_X11_growAll_6 : kk_d cX11_growAll 6 (.getfield 96) 3 9 := ⟨by decide +kernel, rfl⟩
theorem e_X11_growAll_9 : kk_dj cX11_growAll 9 (.if_icmp .ge 39) 3 (39) 12 48 := ⟨by decide +kernel, rfl, by decide⟩
theorem e_X11_growAll_48 : kk_d cX11_growAll 48 (.iload_n 1) 1 49 := ⟨by decide +kernel, rfl⟩
theorem e_X11_growAll_49 : kk_d cX11_growAll 49 .ireturn 1 50 := ⟨by decide +kernel, rfl⟩
theorem e_X11_growAll_12 : kk_d cX11_growAll 12 (.aload_n 0) 1 13 := ⟨by decide +kernel, rfl⟩
theorem e_X11_growAll_13 : kk_d cX11_growAll 13 (.getfield 31) 3 16 := ⟨by decide +kernel, rfl⟩
theorem e_X11_growAll_16 : kk_d cX11_growAll 16 (.iload_n 2) 1 17 := ⟨by decide +kernel, rfl⟩
theorem e_X11_growAll_17 : kk_d cX11_growAll 17 .iaload 1 18 := ⟨by decide +kernel, rfl⟩
theorem e_X11_growAll_18 : kk_dj cX11_growAll 18 (.ifCond .lt 6) 3 (6) 21 24 := ⟨by decide +kernel, rfl, by decide⟩
theorem e_X11_growAll_42 : kk_d cX11_growAll 42 (.iinc 2 1) 3 45 := ⟨by decide +kernel, rfl⟩
theorem e_X11_growAll_45 : kk_dj cX11_growAll 45 (.goto (-41)) 3 (-41) 48 4 := ⟨by decide +kernel, rfl, by decide⟩
theorem e_X11_growAll_24 : kk_d cX11_growAll 24 (.aload_n 0) 1 25 := ⟨by decide +kernel, rfl⟩
theorem e_X11_growAll_25 : kk_d cX11_growAll 25 (.iload_n 2) 1 26 := ⟨by decide +kernel, rfl⟩
theorem e_X11_growAll_26 : kk_d cX11_growAll 26 (.invokevirtual 185) 3 29 := ⟨by decide +kernel, rfl⟩
theorem e_X11_growAll_29 : kk_d cX11_growAll 29 (.istore_n 3) 1 30 := ⟨by decide +kernel, rfl⟩
theorem e_X11_growAll_30 : kk_d cX11_growAll 30 (.iload_n 1) 1 31 := ⟨by decide +kernel, rfl⟩
theorem e_X11_growAll_31 : kk_d cX11_growAll 31 (.iload_n 3) 1 32 := ⟨by decide +kernel, rfl⟩
theorem e_X11_growAll_32 : kk_dj cX11_growAll 32 (.ifCond .lt 7) 3 (7) 35 39 := ⟨by decide +kernel, rfl, by decide⟩
theorem e_X11_growAll_40 : kk_d cX11_growAll 40 .iadd 1 41 := ⟨by decide +kernel, rfl⟩
theorem e_X11_growAll_41 : kk_d cX11_growAll 41 (.istore_n 1) 1 42 := ⟨by decide +kernel, rfl⟩
theorem e_X11_growAll_39 : kk_d cX11_growAll 39 (.iconst 0) 1 40 := ⟨by decide +kernel, rfl⟩
theorem e_X11_growAll_35 : kk_d cX11_growAll 35 (.iconst 1) 1 36 := ⟨by decide +kernel, rfl⟩
theorem e_X11_growAll_36 : kk_dj cX11_growAll 36 (.goto 4) 3 (4) 39 40 := ⟨by decide +kernel, rfl, by decide⟩
theorem e_X11_growAll_21 : kk_dj cX11_growAll 21 (.goto 21) 3 (21) 24 42 := ⟨by decide +kernel, rfl, by decide⟩
set_option maxRecDepth 4000 in
theorem s_X11_growAll (Z : kk_Z) (σ : kk_St) (Q : Int32 → kk_St → Prop) (h : f_X11_growAll σ Q) : kk_M Z sh_M yX11_growAll cX11_growAll 4 (some .int) (kk_R 7) [.ref (Z.2.1 0)] σ (kk_Qi Z sh_M Q) := by
  unfold f_X11_growAll at h
  refine kk_met (own := RX11) (by decide) rfl (Nat.le_of_ble_eq_true rfl) rfl ?_
  refine kk_iconst ic_0 e_X11_growAll_0 ?_
  refine kk_istore_n (lv' := [(1, .int (0 : Int32)), (0, .ref (Z.2.1 0))]) e_X11_growAll_1 rfl (by decide) rfl ?_
  refine kk_iconst ic_0 e_X11_growAll_2 ?_
  refine kk_istore_n (lv' := [(2, .int (0 : Int32)), (1, .int (0 : Int32)), (0, .ref (Z.2.1 0))]) e_X11_growAll_3 rfl (by decide) rfl ?_
  refine kk_sub [2, 1, 0] rfl ?_
  refine kk_lpW3 (P := fun (v1_1 : Int32) (v2_2 : Int32) (σ_3 : kk_St) => KK Z sh_M RX11 cX11_growAll 4 (some .int) (kk_R 7) (kk_Qi Z sh_M Q) 4 [(0, .ref (Z.2.1 0)), (1, .int v1_1), (2, .int v2_2)] [] σ_3) ?_ h
  intro rec_4 hrec_4 v1_1 v2_2 σ_3 h
  refine kk_iload_n 2 rfl e_X11_growAll_4 ?_
  refine kk_aload_n 0 rfl e_X11_growAll_5 ?_
  refine kk_geti e_X11_growAll_6 fl_X11_96 rfl rfl ?_
  refine kk_icmp_ge e_X11_growAll_9 (fun c_14 => ?_) (fun c_14 => ?_)
  · replace h := h.1 c_14
    refine kk_iload_n 1 rfl e_X11_growAll_48 ?_
    exact kk_iret e_X11_growAll_49 h
  · replace h := h.2 c_14
    refine kk_aload_n 0 rfl e_X11_growAll_12 ?_
    refine kk_getr e_X11_growAll_13 fl_X11_31 rfl rfl ?_
    refine kk_iload_n 2 rfl e_X11_growAll_16 ?_
    refine kk_iald e_X11_growAll_17 rfl h.1 ?_
    replace h := h.2
    refine kk_jW2 (P := fun (v1_5 : Int32) (σ_6 : kk_St) => KK Z sh_M RX11 cX11_growAll 4 (some .int) (kk_R 7) (kk_Qi Z sh_M Q) 42 [(0, .ref (Z.2.1 0)), (1, .int v1_5), (2, .int v2_2)] [] σ_6) h ?_ ?_
    · intro v1_5 σ_6 h
      refine kk_iinc (lv' := [(2, .int (v2_2 + (1 : Int32))), (0, .ref (Z.2.1 0)), (1, .int v1_5)]) e_X11_growAll_42 (j := 2) rfl (ii_1 v2_2) (by decide) rfl ?_
      refine kk_goto e_X11_growAll_45 ?_
      exact kk_sub [1, 2, 0] rfl (hrec_4 v1_5 (v2_2 + (1 : Int32)) σ_6 h)
    · intro J_7 hJ_7 h
      refine kk_if_lt e_X11_growAll_18 (fun c_13 => ?_) (fun c_13 => ?_)
      · replace h := h.1 c_13
        refine kk_aload_n 0 rfl e_X11_growAll_24 ?_
        refine kk_iload_n 2 rfl e_X11_growAll_25 ?_
        refine kk_callVi (As := [.int v2_2]) (rest := []) e_X11_growAll_26 ml_X11_185 ⟨_, _, _, _, rfl, rfl⟩ rfl (kk_fitR (by decide) (by decide)) (Nat.le_of_ble_eq_true rfl) rfl (s_X11_grows Z v2_2 σ_3 _ h) (fun r_8 σ_9 h => ?_)
        refine kk_istore_n (lv' := [(3, .int r_8), (0, .ref (Z.2.1 0)), (1, .int v1_1), (2, .int v2_2)]) e_X11_growAll_29 rfl (by decide) rfl ?_
        refine kk_iload_n 2 rfl e_X11_growAll_30 ?_
        refine kk_iload_n 0 rfl e_X11_growAll_31 ?_
        refine kk_jW1 (P := fun (t_10 : Int32) => KK Z sh_M RX11 cX11_growAll 4 (some .int) (kk_R 7) (kk_Qi Z sh_M Q) 40 [(0, .ref (Z.2.1 0)), (2, .int v2_2)] [.int t_10, .int v1_1] σ_9) h ?_ ?_
        · intro t_10 h
          refine kk_iadd e_X11_growAll_40 ?_
          refine kk_istore_n (lv' := [(1, .int (v1_1 + t_10)), (0, .ref (Z.2.1 0)), (2, .int v2_2)]) e_X11_growAll_41 rfl (by decide) rfl ?_
          exact kk_sub [1, 0, 2] rfl (hJ_7 (v1_1 + t_10) σ_9 h)
        · intro J_11 hJ_11 h
          refine kk_if_lt e_X11_growAll_32 (fun c_12 => ?_) (fun c_12 => ?_)
          · replace h := h.1 c_12
            refine kk_iconst ic_0 e_X11_growAll_39 ?_
            exact kk_sub [1, 3] rfl (hJ_11 (0 : Int32) h)
          · replace h := h.2 c_12
            refine kk_iconst ic_1 e_X11_growAll_35 ?_
            refine kk_goto e_X11_growAll_36 ?_
            exact kk_sub [1, 3] rfl (hJ_11 (1 : Int32) h)
      · replace h := h.2 c_13
        refine kk_goto e_X11_growAll_21 ?_
        exact kk_sub [0, 1, 2] rfl (hJ_7 v1_1 σ_3 h)
theorem e_X11_grown_0 : kk_d cX11_grown 0 (.aload_n 0) 1 1 := ⟨by decide +kernel, rfl⟩
theorem e_X11_grown_1 : kk_d cX11_grown 1 (.getfield 103) 3 4 := ⟨by decide +kernel, rfl⟩
theorem e_X11_grown_4 : kk_dj cX11_grown 4 (.ifCond .eq 21) 3 (21) 7 25 := ⟨by decide +kernel, rfl, by decide⟩
theorem e_X11_grown_26 : kk_d cX11_grown 26 .ireturn 1 27 := ⟨by decide +kernel, rfl⟩
theorem e_X11_grown_25 : kk_d cX11_grown 25 (.iconst (-1)) 1 26 := ⟨by decide +kernel, rfl⟩
theorem e_X11_grown_7 : kk_d cX11_grown 7 (.iload_n 1) 1 8 := ⟨by decide +kernel, rfl⟩
theorem e_X11_grown_8 : kk_d cX11_grown 8 (.iconst 0) 1 9 := ⟨by decide +kernel, rfl⟩
theorem e_X11_grown_9 : kk_d cX11_grown 9 (.iconst 4) 1 10 := ⟨by decide +kernel, rfl⟩
theorem e_X11_grown_10 : kk_d cX11_grown 10 (.invokestatic 92) 3 13 := ⟨by decide +kernel, rfl⟩
theorem e_X11_grown_13 : kk_dj cX11_grown 13 (.ifCond .eq 12) 3 (12) 16 25 := ⟨by decide +kernel, rfl, by decide⟩
theorem e_X11_grown_16 : kk_d cX11_grown 16 (.aload_n 0) 1 17 := ⟨by decide +kernel, rfl⟩
theorem e_X11_grown_17 : kk_d cX11_grown 17 (.getfield 43) 3 20 := ⟨by decide +kernel, rfl⟩
theorem e_X11_grown_20 : kk_d cX11_grown 20 (.iload_n 1) 1 21 := ⟨by decide +kernel, rfl⟩
theorem e_X11_grown_21 : kk_d cX11_grown 21 .iaload 1 22 := ⟨by decide +kernel, rfl⟩
theorem e_X11_grown_22 : kk_dj cX11_grown 22 (.goto 4) 3 (4) 25 26 := ⟨by decide +kernel, rfl, by decide⟩
set_option maxRecDepth 4000 in
theorem s_X11_grown (Z : kk_Z) (v1 : Int32) (σ : kk_St) (Q : Int32 → Prop) (h : f_X11_grown v1 σ Q) : kk_M Z sh_M yX11_grown cX11_grown 2 (some .int) (kk_R 3) [.ref (Z.2.1 0), .int v1] σ (kk_Qi Z sh_M (fun r σ' => σ' = σ ∧ Q r)) := by
  unfold f_X11_grown at h
  refine kk_met (own := RX11) (by decide) rfl (Nat.le_of_ble_eq_true rfl) rfl ?_
  refine kk_aload_n 0 rfl e_X11_grown_0 ?_
  refine kk_geti e_X11_grown_1 fl_X11_103 rfl rfl ?_
  refine kk_jW1 (P := fun (t_1 : Int32) => KK Z sh_M RX11 cX11_grown 2 (some .int) (kk_R 3) (kk_Qi Z sh_M (fun r σ' => σ' = σ ∧ Q r)) 26 [] [.int t_1] σ) h ?_ ?_
  · intro t_1 h
    exact kk_iret e_X11_grown_26 ⟨rfl, h⟩
  · intro J_2 hJ_2 h
    refine kk_jW0 (P := KK Z sh_M RX11 cX11_grown 2 (some .int) (kk_R 3) (kk_Qi Z sh_M (fun r σ' => σ' = σ ∧ Q r)) 25 [] [] σ) h ?_ ?_
    · intro h
      refine kk_iconst ic_m1 e_X11_grown_25 ?_
      exact kk_sub [] rfl (hJ_2 (-1 : Int32) h)
    · intro J_3 hJ_3 h
      refine kk_if_eq e_X11_grown_4 (fun c_6 => ?_) (fun c_6 => ?_)
      · replace h := h.1 c_6
        exact kk_sub [] rfl (hJ_3 h)
      · replace h := h.2 c_6
        refine kk_iload_n 1 rfl e_X11_grown_7 ?_
        refine kk_iconst ic_0 e_X11_grown_8 ?_
        refine kk_iconst ic_4 e_X11_grown_9 ?_
        refine kk_callSip (As := [.int v1, .int (0 : Int32), .int (4 : Int32)]) (rest := []) e_X11_grown_10 ml_X11_92 rfl (kk_fitR (by decide) (by decide)) (Nat.le_of_ble_eq_true rfl) rfl (s_X11_in Z v1 (0 : Int32) (4 : Int32) σ _ h) (fun r_4 h => ?_)
        refine kk_if_eq e_X11_grown_13 (fun c_5 => ?_) (fun c_5 => ?_)
        · replace h := h.1 c_5
          exact kk_sub [] rfl (hJ_3 h)
        · replace h := h.2 c_5
          refine kk_aload_n 0 rfl e_X11_grown_16 ?_
          refine kk_getr e_X11_grown_17 fl_X11_43 rfl rfl ?_
          refine kk_iload_n 1 rfl e_X11_grown_20 ?_
          refine kk_iald e_X11_grown_21 rfl h.1 ?_
          replace h := h.2
          refine kk_goto e_X11_grown_22 ?_
          exact kk_sub [] rfl (hJ_2 (kk_rd σ 7 v1) h)
theorem e_X11_idle_0 : kk_d cX11_idle 0 (.iload_n 1) 1 1 := ⟨by decide +kernel, rfl⟩
theorem e_X11_idle_1 : kk_d cX11_idle 1 (.iconst (-1)) 1 2 := ⟨by decide +kernel, rfl⟩
theorem e_X11_idle_2 : kk_dj cX11_idle 2 (.if_icmp .ne 10) 3 (10) 5 12 := ⟨by decide +kernel, rfl, by decide⟩
theorem e_X11_idle_30 : kk_d cX11_idle 30 .ireturn 1 31 := ⟨by decide +kernel, rfl⟩
theorem e_X11_idle_12 : kk_d cX11_idle 12 (.aload_n 0) 1 13 := ⟨by decide +kernel, rfl⟩
theorem e_X11_idle_13 : kk_d cX11_idle 13 (.iload_n 1) 1 14 := ⟨by decide +kernel, rfl⟩
theorem e_X11_idle_14 : kk_d cX11_idle 14 (.invokevirtual 106) 3 17 := ⟨by decide +kernel, rfl⟩
theorem e_X11_idle_17 : kk_dj cX11_idle 17 (.ifCond .eq 11) 3 (11) 20 28 := ⟨by decide +kernel, rfl, by decide⟩
theorem e_X11_idle_28 : kk_d cX11_idle 28 (.bipush (-2)) 2 30 := ⟨by decide +kernel, rfl⟩
theorem e_X11_idle_20 : kk_d cX11_idle 20 (.aload_n 0) 1 21 := ⟨by decide +kernel, rfl⟩
theorem e_X11_idle_21 : kk_d cX11_idle 21 (.iload_n 1) 1 22 := ⟨by decide +kernel, rfl⟩
theorem e_X11_idle_22 : kk_d cX11_idle 22 (.invokevirtual 308) 3 25 := ⟨by decide +kernel, rfl⟩
theorem e_X11_idle_25 : kk_dj cX11_idle 25 (.goto 5) 3 (5) 28 30 := ⟨by decide +kernel, rfl, by decide⟩
theorem e_X11_idle_5 : kk_d cX11_idle 5 (.aload_n 0) 1 6 := ⟨by decide +kernel, rfl⟩
theorem e_X11_idle_6 : kk_d cX11_idle 6 (.invokevirtual 311) 3 9 := ⟨by decide +kernel, rfl⟩
theorem e_X11_idle_9 : kk_dj cX11_idle 9 (.goto 21) 3 (21) 12 30 := ⟨by decide +kernel, rfl, by decide⟩
set_option maxRecDepth 4000 in
theorem s_X11_idle (Z : kk_Z) (v1 : Int32) (σ : kk_St) (Q : Int32 → Prop) (h : f_X11_idle v1 σ Q) : kk_M Z sh_M yX11_idle cX11_idle 2 (some .int) (kk_R 6) [.ref (Z.2.1 0), .int v1] σ (kk_Qi Z sh_M (fun r σ' => σ' = σ ∧ Q r)) := by
  unfold f_X11_idle at h
  refine kk_met (own := RX11) (by decide) rfl (Nat.le_of_ble_eq_true rfl) rfl ?_
  refine kk_iload_n 1 rfl e_X11_idle_0 ?_
  refine kk_iconst ic_m1 e_X11_idle_1 ?_
  refine kk_jW1 (P := fun (t_1 : Int32) => KK Z sh_M RX11 cX11_idle 2 (some .int) (kk_R 6) (kk_Qi Z sh_M (fun r σ' => σ' = σ ∧ Q r)) 30 [] [.int t_1] σ) h ?_ ?_
  · intro t_1 h
    exact kk_iret e_X11_idle_30 ⟨rfl, h⟩
  · intro J_2 hJ_2 h
    refine kk_icmp_ne e_X11_idle_2 (fun c_7 => ?_) (fun c_7 => ?_)
    · replace h := h.1 c_7
      refine kk_aload_n 0 rfl e_X11_idle_12 ?_
      refine kk_iload_n 1 rfl e_X11_idle_13 ?_
      refine kk_callVip (As := [.int v1]) (rest := []) e_X11_idle_14 ml_X11_106 ⟨_, _, _, _, rfl, rfl⟩ rfl (kk_fitR (by decide) (by decide)) (Nat.le_of_ble_eq_true rfl) rfl (s_X11_isPost Z v1 σ _ h) (fun r_3 h => ?_)
      refine kk_if_eq e_X11_idle_17 (fun c_5 => ?_) (fun c_5 => ?_)
      · replace h := h.1 c_5
        refine kk_bipush bp_m2 e_X11_idle_28 ?_
        exact kk_sub [] rfl (hJ_2 (-2 : Int32) h)
      · replace h := h.2 c_5
        refine kk_aload_n 0 rfl e_X11_idle_20 ?_
        refine kk_iload_n 1 rfl e_X11_idle_21 ?_
        refine kk_callVip (As := [.int v1]) (rest := []) e_X11_idle_22 ml_X11_308 ⟨_, _, _, _, rfl, rfl⟩ rfl (kk_fitR (by decide) (by decide)) (Nat.le_of_ble_eq_true rfl) rfl (s_X11_idleAt Z v1 σ _ h) (fun r_4 h => ?_)
        refine kk_goto e_X11_idle_25 ?_
        exact kk_sub [] rfl (hJ_2 r_4 h)
    · replace h := h.2 c_7
      refine kk_aload_n 0 rfl e_X11_idle_5 ?_
      refine kk_callVip (As := []) (rest := []) e_X11_idle_6 ml_X11_311 ⟨_, _, _, _, rfl, rfl⟩ rfl (kk_fitR (by decide) (by decide)) (Nat.le_of_ble_eq_true rfl) rfl (s_X11_idleAll Z σ _ h) (fun r_6 h => ?_)
      refine kk_goto e_X11_idle_9 ?_
      exact kk_sub [] rfl (hJ_2 r_6 h)
theorem e_X11_isTrialFit_0 : kk_d cX11_isTrialFit 0 (.iconst 0) 1 1 := ⟨by decide +kernel, rfl⟩
theorem e_X11_isTrialFit_1 : kk_d cX11_isTrialFit 1 (.istore_n 1) 1 2 := ⟨by decide +kernel, rfl⟩
theorem e_X11_isTrialFit_2 : kk_d cX11_isTrialFit 2 (.iload_n 1) 1 3 := ⟨by decide +kernel, rfl⟩
theorem e_X11_isTrialFit_3 : kk_d cX11_isTrialFit 3 (.aload_n 0) 1 4 := ⟨by decide +kernel, rfl⟩
theorem e_X11_isTrialFit_4 : kk_d cX11_isTrialFit 4 (.getfield 96) 3 7 := ⟨by decide +kernel, rfl⟩
theorem e_X11_isTrialFit_7 : kk_dj cX11_isTrialFit 7 (.if_icmp .ge 48) 3 (48) 10 55 := ⟨by decide +kernel, rfl, by decide⟩
theorem e_X11_isTrialFit_55 : kk_d cX11_isTrialFit 55 (.iconst 1) 1 56 := ⟨by decide +kernel, rfl⟩
theorem e_X11_isTrialFit_56 : kk_d cX11_isTrialFit 56 .ireturn 1 57 := ⟨by decide +kernel, rfl⟩
theorem e_X11_isTrialFit_10 : kk_d cX11_isTrialFit 10 (.iconst 0) 1 11 := ⟨by decide +kernel, rfl⟩
theorem e_X11_isTrialFit_11 : kk_d cX11_isTrialFit 11 (.istore_n 2) 1 12 := ⟨by decide +kernel, rfl⟩
theorem e_X11_isTrialFit_12 : kk_d cX11_isTrialFit 12 (.iload_n 2) 1 13 := ⟨by decide +kernel, rfl⟩
theorem e_X11_isTrialFit_13 : kk_d cX11_isTrialFit 13 (.iload_n 1) 1 14 := ⟨by decide +kernel, rfl⟩
theorem e_X11_isTrialFit_14 : kk_dj cX11_isTrialFit 14 (.if_icmp .ge 35) 3 (35) 17 49 := ⟨by decide +kernel, rfl, by decide⟩
theorem e_X11_isTrialFit_49 : kk_d cX11_isTrialFit 49 (.iinc 1 1) 3 52 := ⟨by decide +kernel, rfl⟩
theorem e_X11_isTrialFit_52 : kk_dj cX11_isTrialFit 52 (.goto (-50)) 3 (-50) 55 2 := ⟨by decide +kernel, rfl, by decide⟩
theorem e_X11_isTrialFit_17 : kk_d cX11_isTrialFit 17 (.aload_n 0) 1 18 := ⟨by decide +kernel, rfl⟩
theorem e_X11_isTrialFit_18 : kk_d cX11_isTrialFit 18 (.getfield 77) 3 21 := ⟨by decide +kernel, rfl⟩
theorem e_X11_isTrialFit_21 : kk_d cX11_isTrialFit 21 (.iload_n 1) 1 22 := ⟨by decide +kernel, rfl⟩
theorem e_X11_isTrialFit_22 : kk_d cX11_isTrialFit 22 .iaload 1 23 := ⟨by decide +kernel, rfl⟩
theorem e_X11_isTrialFit_23 : kk_d cX11_isTrialFit 23 (.aload_n 0) 1 24 := ⟨by decide +kernel, rfl⟩
theorem e_X11_isTrialFit_24 : kk_d cX11_isTrialFit 24 (.getfield 77) 3 27 := ⟨by decide +kernel, rfl⟩
theorem e_X11_isTrialFit_27 : kk_d cX11_isTrialFit 27 (.iload_n 2) 1 28 := ⟨by decide +kernel, rfl⟩
theorem e_X11_isTrialFit_28 : kk_d cX11_isTrialFit 28 .iaload 1 29 := ⟨by decide +kernel, rfl⟩
theorem e_X11_isTrialFit_29 : kk_dj cX11_isTrialFit 29 (.if_icmp .ne 14) 3 (14) 32 43 := ⟨by decide +kernel, rfl, by decide⟩
theorem e_X11_isTrialFit_43 : kk_d cX11_isTrialFit 43 (.iinc 2 1) 3 46 := ⟨by decide +kernel, rfl⟩
theorem e_X11_isTrialFit_46 : kk_dj cX11_isTrialFit 46 (.goto (-34)) 3 (-34) 49 12 := ⟨by decide +kernel, rfl, by decide⟩
theorem e_X11_isTrialFit_32 : kk_d cX11_isTrialFit 32 (.aload_n 0) 1 33 := ⟨by decide +kernel, rfl⟩
theorem e_X11_isTrialFit_33 : kk_d cX11_isTrialFit 33 (.iload_n 1) 1 34 := ⟨by decide +kernel, rfl⟩
theorem e_X11_isTrialFit_34 : kk_d cX11_isTrialFit 34 (.iload_n 2) 1 35 := ⟨by decide +kernel, rfl⟩
theorem e_X11_isTrialFit_35 : kk_d cX11_isTrialFit 35 (.invokevirtual 259) 3 38 := ⟨by decide +kernel, rfl⟩
theorem e_X11_isTrialFit_38 : kk_dj cX11_isTrialFit 38 (.ifCond .eq 5) 3 (5) 41 43 := ⟨by decide +kernel, rfl, by decide⟩
theorem e_X11_isTrialFit_41 : kk_d cX11_isTrialFit 41 (.iconst 0) 1 42 := ⟨by decide +kernel, rfl⟩
theorem e_X11_isTrialFit_42 : kk_d cX11_isTrialFit 42 .ireturn 1 43 := ⟨by decide +kernel, rfl⟩
set_option maxRecDepth 4000 in
theorem s_X11_isTrialFit (Z : kk_Z) (σ : kk_St) (Q : Int32 → Prop) (h : f_X11_isTrialFit σ Q) : kk_M Z sh_M yX11_isTrialFit cX11_isTrialFit 3 (some .boolean) (kk_R 4) [.ref (Z.2.1 0)] σ (kk_Qi Z sh_M (fun r σ' => σ' = σ ∧ Q r)) := by
  unfold f_X11_isTrialFit at h
  refine kk_met (own := RX11) (by decide) rfl (Nat.le_of_ble_eq_true rfl) rfl ?_
  refine kk_iconst ic_0 e_X11_isTrialFit_0 ?_
  refine kk_istore_n (lv' := [(1, .int (0 : Int32)), (0, .ref (Z.2.1 0))]) e_X11_isTrialFit_1 rfl (by decide) rfl ?_
  refine kk_sub [1, 0] rfl ?_
  refine kk_lpW1 (P := fun (v1_1 : Int32) => KK Z sh_M RX11 cX11_isTrialFit 3 (some .boolean) (kk_R 4) (kk_Qi Z sh_M (fun r σ' => σ' = σ ∧ Q r)) 2 [(0, .ref (Z.2.1 0)), (1, .int v1_1)] [] σ) ?_ h
  intro rec_2 hrec_2 v1_1 h
  refine kk_iload_n 1 rfl e_X11_isTrialFit_2 ?_
  refine kk_aload_n 0 rfl e_X11_isTrialFit_3 ?_
  refine kk_geti e_X11_isTrialFit_4 fl_X11_96 rfl rfl ?_
  refine kk_icmp_ge e_X11_isTrialFit_7 (fun c_10 => ?_) (fun c_10 => ?_)
  · replace h := h.1 c_10
    refine kk_iconst ic_1 e_X11_isTrialFit_55 ?_
    exact kk_zret e_X11_isTrialFit_56 (Or.inr rfl) ⟨rfl, h⟩
  · replace h := h.2 c_10
    refine kk_iconst ic_0 e_X11_isTrialFit_10 ?_
    refine kk_istore_n (lv' := [(2, .int (0 : Int32)), (0, .ref (Z.2.1 0)), (1, .int v1_1)]) e_X11_isTrialFit_11 rfl (by decide) rfl ?_
    refine kk_sub [1, 2, 0] rfl ?_
    refine kk_lpW1 (P := fun (v2_3 : Int32) => KK Z sh_M RX11 cX11_isTrialFit 3 (some .boolean) (kk_R 4) (kk_Qi Z sh_M (fun r σ' => σ' = σ ∧ Q r)) 12 [(0, .ref (Z.2.1 0)), (1, .int v1_1), (2, .int v2_3)] [] σ) ?_ h
    intro rec_4 hrec_4 v2_3 h
    refine kk_iload_n 2 rfl e_X11_isTrialFit_12 ?_
    refine kk_iload_n 1 rfl e_X11_isTrialFit_13 ?_
    refine kk_icmp_ge e_X11_isTrialFit_14 (fun c_9 => ?_) (fun c_9 => ?_)
    · replace h := h.1 c_9
      refine kk_iinc (lv' := [(1, .int (v1_1 + (1 : Int32))), (0, .ref (Z.2.1 0)), (2, .int v2_3)]) e_X11_isTrialFit_49 (j := 1) rfl (ii_1 v1_1) (by decide) rfl ?_
      refine kk_goto e_X11_isTrialFit_52 ?_
      exact kk_sub [1, 0] rfl (hrec_2 (v1_1 + (1 : Int32)) h)
    · replace h := h.2 c_9
      refine kk_aload_n 0 rfl e_X11_isTrialFit_17 ?_
      refine kk_getr e_X11_isTrialFit_18 fl_X11_77 rfl rfl ?_
      refine kk_iload_n 1 rfl e_X11_isTrialFit_21 ?_
      refine kk_iald e_X11_isTrialFit_22 rfl h.1 ?_
      replace h := h.2
      refine kk_aload_n 0 rfl e_X11_isTrialFit_23 ?_
      refine kk_getr e_X11_isTrialFit_24 fl_X11_77 rfl rfl ?_
      refine kk_iload_n 2 rfl e_X11_isTrialFit_27 ?_
      refine kk_iald e_X11_isTrialFit_28 rfl h.1 ?_
      replace h := h.2
      refine kk_jW0 (P := KK Z sh_M RX11 cX11_isTrialFit 3 (some .boolean) (kk_R 4) (kk_Qi Z sh_M (fun r σ' => σ' = σ ∧ Q r)) 43 [(0, .ref (Z.2.1 0)), (1, .int v1_1), (2, .int v2_3)] [] σ) h ?_ ?_
      · intro h
        refine kk_iinc (lv' := [(2, .int (v2_3 + (1 : Int32))), (0, .ref (Z.2.1 0)), (1, .int v1_1)]) e_X11_isTrialFit_43 (j := 2) rfl (ii_1 v2_3) (by decide) rfl ?_
        refine kk_goto e_X11_isTrialFit_46 ?_
        exact kk_sub [1, 2, 0] rfl (hrec_4 (v2_3 + (1 : Int32)) h)
      · intro J_5 hJ_5 h
        refine kk_icmp_ne e_X11_isTrialFit_29 (fun c_8 => ?_) (fun c_8 => ?_)
        · replace h := h.1 c_8
          exact kk_sub [0, 1, 2] rfl (hJ_5 h)
        · replace h := h.2 c_8
          refine kk_aload_n 0 rfl e_X11_isTrialFit_32 ?_
          refine kk_iload_n 1 rfl e_X11_isTrialFit_33 ?_
          refine kk_iload_n 2 rfl e_X11_isTrialFit_34 ?_
          refine kk_callVip (As := [.int v1_1, .int v2_3]) (rest := []) e_X11_isTrialFit_35 ml_X11_259 ⟨_, _, _, _, rfl, rfl⟩ rfl (kk_fitR (by decide) (by decide)) (Nat.le_of_ble_eq_true rfl) rfl (s_X11_doMeet Z v1_1 v2_3 σ _ h) (fun r_6 h => ?_)
          refine kk_if_eq e_X11_isTrialFit_38 (fun c_7 => ?_) (fun c_7 => ?_)
          · replace h := h.1 c_7
            exact kk_sub [0, 1, 2] rfl (hJ_5 h)
          · replace h := h.2 c_7
            refine kk_iconst ic_0 e_X11_isTrialFit_41 ?_
            exact kk_zret e_X11_isTrialFit_42 (Or.inl rfl) ⟨rfl, h⟩
theorem e_X11_keep_0 : kk_d cX11_keep 0 (.iconst 0) 1 1 := ⟨by decide +kernel, rfl⟩
theorem e_X11_keep_1 : kk_d cX11_keep 1 (.istore_n 1) 1 2 := ⟨by decide +kernel, rfl⟩
theorem e_X11_keep_2 : kk_d cX11_keep 2 (.iload_n 1) 1 3 := ⟨by decide +kernel, rfl⟩
theorem e_X11_keep_3 : kk_d cX11_keep 3 (.aload_n 0) 1 4 := ⟨by decide +kernel, rfl⟩
theorem e_X11_keep_4 : kk_d cX11_keep 4 (.getfield 96) 3 7 := ⟨by decide +kernel, rfl⟩
theorem e_X11_keep_7 : kk_dj cX11_keep 7 (.if_icmp .ge 21) 3 (21) 10 28 := ⟨by decide +kernel, rfl, by decide⟩
theorem e_X11_keep_28 : kk_d cX11_keep 28 (.aload_n 0) 1 29 := ⟨by decide +kernel, rfl⟩
theorem e_X11_keep_29 : kk_d cX11_keep 29 (.iconst 1) 1 30 := ⟨by decide +kernel, rfl⟩
theorem e_X11_keep_30 : kk_d cX11_keep 30 (.putfield 99) 3 33 := ⟨by decide +kernel, rfl⟩
theorem e_X11_keep_33 : kk_d cX11_keep 33 (.iconst 1) 1 34 := ⟨by decide +kernel, rfl⟩
theorem e_X11_keep_34 : kk_d cX11_keep 34 .ireturn 1 35 := ⟨by decide +kernel, rfl⟩
theorem e_X11_keep_10 : kk_d cX11_keep 10 (.aload_n 0) 1 11 := ⟨by decide +kernel, rfl⟩
theorem e_X11_keep_11 : kk_d cX11_keep 11 (.getfield 37) 3 14 := ⟨by decide +kernel, rfl⟩
theorem e_X11_keep_14 : kk_d cX11_keep 14 (.iload_n 1) 1 15 := ⟨by decide +kernel, rfl⟩
theorem e_X11_keep_15 : kk_d cX11_keep 15 (.aload_n 0) 1 16 := ⟨by decide +kernel, rfl⟩
theorem e_X11_keep_16 : kk_d cX11_keep 16 (.getfield 31) 3 19 := ⟨by decide +kernel, rfl⟩
theorem e_X11_keep_19 : kk_d cX11_keep 19 (.iload_n 1) 1 20 := ⟨by decide +kernel, rfl⟩
theorem e_X11_keep_20 : kk_d cX11_keep 20 .iaload 1 21 := ⟨by decide +kernel, rfl⟩
theorem e_X11_keep_21 : kk_d cX11_keep 21 .iastore 1 22 := ⟨by decide +kernel, rfl⟩
theorem e_X11_keep_22 : kk_d cX11_keep 22 (.iinc 1 1) 3 25 := ⟨by decide +kernel, rfl⟩
theorem e_X11_keep_25 : kk_dj cX11_keep 25 (.goto (-23)) 3 (-23) 28 2 := ⟨by decide +kernel, rfl, by decide⟩
set_option maxRecDepth 4000 in
theorem s_X11_keep (Z : kk_Z) (σ : kk_St) (Q : Int32 → kk_St → Prop) (h : f_X11_keep σ Q) : kk_M Z sh_M yX11_keep cX11_keep 2 (some .boolean) (kk_R 2) [.ref (Z.2.1 0)] σ (kk_Qi Z sh_M Q) := by
  unfold f_X11_keep at h
  refine kk_met (own := RX11) (by decide) rfl (Nat.le_of_ble_eq_true rfl) rfl ?_
  refine kk_iconst ic_0 e_X11_keep_0 ?_
  refine kk_istore_n (lv' := [(1, .int (0 : Int32)), (0, .ref (Z.2.1 0))]) e_X11_keep_1 rfl (by decide) rfl ?_
  refine kk_sub [1, 0] rfl ?_
  refine kk_lpW2 (P := fun (v1_1 : Int32) (σ_2 : kk_St) => KK Z sh_M RX11 cX11_keep 2 (some .boolean) (kk_R 2) (kk_Qi Z sh_M Q) 2 [(0, .ref (Z.2.1 0)), (1, .int v1_1)] [] σ_2) ?_ h
  intro rec_3 hrec_3 v1_1 σ_2 h
  refine kk_iload_n 1 rfl e_X11_keep_2 ?_
  refine kk_aload_n 0 rfl e_X11_keep_3 ?_
  refine kk_geti e_X11_keep_4 fl_X11_96 rfl rfl ?_
  refine kk_icmp_ge e_X11_keep_7 (fun c_6 => ?_) (fun c_6 => ?_)
  · replace h := h.1 c_6
    refine kk_aload_n 0 rfl e_X11_keep_28 ?_
    refine kk_iconst ic_1 e_X11_keep_29 ?_
    refine kk_putz e_X11_keep_30 fl_X11_99 fn_X11_8 (Or.inr rfl) rfl rfl ?_
    refine kk_tops (fun σ_4 eσ_4 => ?_)
    replace h := h σ_4 eσ_4
    refine kk_iconst ic_1 e_X11_keep_33 ?_
    exact kk_zret e_X11_keep_34 (Or.inr rfl) h
  · replace h := h.2 c_6
    refine kk_aload_n 0 rfl e_X11_keep_10 ?_
    refine kk_getr e_X11_keep_11 fl_X11_37 rfl rfl ?_
    refine kk_iload_n 1 rfl e_X11_keep_14 ?_
    refine kk_aload_n 0 rfl e_X11_keep_15 ?_
    refine kk_getr e_X11_keep_16 fl_X11_31 rfl rfl ?_
    refine kk_iload_n 1 rfl e_X11_keep_19 ?_
    refine kk_iald e_X11_keep_20 rfl h.1 ?_
    replace h := h.2
    refine kk_iast e_X11_keep_21 rfl h.1 ?_
    replace h := h.2
    refine kk_tops (fun σ_5 eσ_5 => ?_)
    replace h := h σ_5 eσ_5
    refine kk_iinc (lv' := [(1, .int (v1_1 + (1 : Int32))), (0, .ref (Z.2.1 0))]) e_X11_keep_22 (j := 1) rfl (ii_1 v1_1) (by decide) rfl ?_
    refine kk_goto e_X11_keep_25 ?_
    exact kk_sub [1, 0] rfl (hrec_3 (v1_1 + (1 : Int32)) σ_5 h)
theorem e_X11_laysTrial_0 : kk_d cX11_laysTrial 0 (.iload_n 1) 1 1 := ⟨by decide +kernel, rfl⟩
theorem e_X11_laysTrial_1 : kk_d cX11_laysTrial 1 (.istore_n 3) 1 2 := ⟨by decide +kernel, rfl⟩
theorem e_X11_laysTrial_2 : kk_d cX11_laysTrial 2 (.iconst 0) 1 3 := ⟨by decide +kernel, rfl⟩
theorem e_X11_laysTrial_3 : kk_d cX11_laysTrial 3 (.istore 4) 2 5 := ⟨by decide +kernel, rfl⟩
theorem e_X11_laysTrial_5 : kk_d cX11_laysTrial 5 (.iload 4) 2 7 := ⟨by decide +kernel, rfl⟩
theorem e_X11_laysTrial_7 : kk_d cX11_laysTrial 7 (.aload_n 0) 1 8 := ⟨by decide +kernel, rfl⟩
theorem e_X11_laysTrial_8 : kk_d cX11_laysTrial 8 (.getfield 96) 3 11 := ⟨by decide +kernel, rfl⟩
theorem e_X11_laysTrial_11 : kk_dj cX11_laysTrial 11 (.if_icmp .ge 23) 3 (23) 14 34 := ⟨by decide +kernel, rfl, by decide⟩
theorem e_X11_laysTrial_34 : kk_d cX11_laysTrial 34 .return_ 1 35 := ⟨by decide +kernel, rfl⟩
theorem e_X11_laysTrial_14 : kk_d cX11_laysTrial 14 (.aload_n 0) 1 15 := ⟨by decide +kernel, rfl⟩
theorem e_X11_laysTrial_15 : kk_d cX11_laysTrial 15 (.getfield 77) 3 18 := ⟨by decide +kernel, rfl⟩
theorem e_X11_laysTrial_18 : kk_d cX11_laysTrial 18 (.iload 4) 2 20 := ⟨by decide +kernel, rfl⟩
theorem e_X11_laysTrial_20 : kk_d cX11_laysTrial 20 (.iload_n 3) 1 21 := ⟨by decide +kernel, rfl⟩
theorem e_X11_laysTrial_21 : kk_d cX11_laysTrial 21 (.iload_n 2) 1 22 := ⟨by decide +kernel, rfl⟩
theorem e_X11_laysTrial_22 : kk_d cX11_laysTrial 22 .irem 1 23 := ⟨by decide +kernel, rfl⟩
theorem e_X11_laysTrial_23 : kk_d cX11_laysTrial 23 .iastore 1 24 := ⟨by decide +kernel, rfl⟩
theorem e_X11_laysTrial_24 : kk_d cX11_laysTrial 24 (.iload_n 3) 1 25 := ⟨by decide +kernel, rfl⟩
theorem e_X11_laysTrial_25 : kk_d cX11_laysTrial 25 (.iload_n 2) 1 26 := ⟨by decide +kernel, rfl⟩
theorem e_X11_laysTrial_26 : kk_d cX11_laysTrial 26 .idiv 1 27 := ⟨by decide +kernel, rfl⟩
theorem e_X11_laysTrial_27 : kk_d cX11_laysTrial 27 (.istore_n 3) 1 28 := ⟨by decide +kernel, rfl⟩
theorem e_X11_laysTrial_28 : kk_d cX11_laysTrial 28 (.iinc 4 1) 3 31 := ⟨by decide +kernel, rfl⟩
theorem e_X11_laysTrial_31 : kk_dj cX11_laysTrial 31 (.goto (-26)) 3 (-26) 34 5 := ⟨by decide +kernel, rfl, by decide⟩
set_option maxRecDepth 4000 in
theorem s_X11_laysTrial (Z : kk_Z) (v1 : Int32) (v2 : Int32) (σ : kk_St) (Q : kk_St → Prop) (h : f_X11_laysTrial v1 v2 σ Q) : kk_M Z sh_M yX11_laysTrial cX11_laysTrial 5 none (kk_R 2) [.ref (Z.2.1 0), .int v1, .int v2] σ (kk_Qv Z sh_M Q) := by
  unfold f_X11_laysTrial at h
  refine kk_met (own := RX11) (by decide) rfl (Nat.le_of_ble_eq_true rfl) rfl ?_
  refine kk_iload_n 1 rfl e_X11_laysTrial_0 ?_
  refine kk_istore_n (lv' := [(3, .int v1), (0, .ref (Z.2.1 0)), (1, .int v1), (2, .int v2)]) e_X11_laysTrial_1 rfl (by decide) rfl ?_
  refine kk_iconst ic_0 e_X11_laysTrial_2 ?_
  refine kk_istore (lv' := [(4, .int (0 : Int32)), (3, .int v1), (0, .ref (Z.2.1 0)), (1, .int v1), (2, .int v2)]) e_X11_laysTrial_3 (by decide) rfl ?_
  refine kk_sub [2, 4, 1, 0] rfl ?_
  refine kk_lpW3 (P := fun (v3_1 : Int32) (v4_2 : Int32) (σ_3 : kk_St) => KK Z sh_M RX11 cX11_laysTrial 5 none (kk_R 2) (kk_Qv Z sh_M Q) 5 [(0, .ref (Z.2.1 0)), (2, .int v2), (3, .int v3_1), (4, .int v4_2)] [] σ_3) ?_ h
  intro rec_4 hrec_4 v3_1 v4_2 σ_3 h
  refine kk_iload 3 rfl e_X11_laysTrial_5 ?_
  refine kk_aload_n 0 rfl e_X11_laysTrial_7 ?_
  refine kk_geti e_X11_laysTrial_8 fl_X11_96 rfl rfl ?_
  refine kk_icmp_ge e_X11_laysTrial_11 (fun c_6 => ?_) (fun c_6 => ?_)
  · replace h := h.1 c_6
    exact kk_vret e_X11_laysTrial_34 h
  · replace h := h.2 c_6
    refine kk_aload_n 0 rfl e_X11_laysTrial_14 ?_
    refine kk_getr e_X11_laysTrial_15 fl_X11_77 rfl rfl ?_
    refine kk_iload 3 rfl e_X11_laysTrial_18 ?_
    refine kk_iload_n 2 rfl e_X11_laysTrial_20 ?_
    refine kk_iload_n 1 rfl e_X11_laysTrial_21 ?_
    refine kk_irem h.1 e_X11_laysTrial_22 ?_
    replace h := h.2
    refine kk_iast e_X11_laysTrial_23 rfl h.1 ?_
    replace h := h.2
    refine kk_tops (fun σ_5 eσ_5 => ?_)
    replace h := h σ_5 eσ_5
    refine kk_iload_n 2 rfl e_X11_laysTrial_24 ?_
    refine kk_iload_n 1 rfl e_X11_laysTrial_25 ?_
    refine kk_idiv h.1 e_X11_laysTrial_26 ?_
    replace h := h.2
    refine kk_istore_n (lv' := [(3, .int (v3_1 / v2)), (0, .ref (Z.2.1 0)), (2, .int v2), (4, .int v4_2)]) e_X11_laysTrial_27 rfl (by decide) rfl ?_
    refine kk_iinc (lv' := [(4, .int (v4_2 + (1 : Int32))), (3, .int (v3_1 / v2)), (0, .ref (Z.2.1 0)), (2, .int v2)]) e_X11_laysTrial_28 (j := 3) rfl (ii_1 v4_2) (by decide) rfl ?_
    refine kk_goto e_X11_laysTrial_31 ?_
    exact kk_sub [2, 3, 1, 0] rfl (hrec_4 (v3_1 / v2) (v4_2 + (1 : Int32)) σ_5 h)
theorem e_X11_spreads_0 : kk_d cX11_spreads 0 (.iconst 1) 1 1 := ⟨by decide +kernel, rfl⟩
theorem e_X11_spreads_1 : kk_d cX11_spreads 1 (.istore 4) 2 3 := ⟨by decide +kernel, rfl⟩
theorem e_X11_spreads_3 : kk_d cX11_spreads 3 (.aload_n 0) 1 4 := ⟨by decide +kernel, rfl⟩
theorem e_X11_spreads_4 : kk_d cX11_spreads 4 (.getfield 83) 3 7 := ⟨by decide +kernel, rfl⟩
theorem e_X11_spreads_7 : kk_d cX11_spreads 7 (.iconst 0) 1 8 := ⟨by decide +kernel, rfl⟩
theorem e_X11_spreads_8 : kk_d cX11_spreads 8 (.iload_n 1) 1 9 := ⟨by decide +kernel, rfl⟩
theorem e_X11_spreads_9 : kk_d cX11_spreads 9 .iastore 1 10 := ⟨by decide +kernel, rfl⟩
theorem e_X11_spreads_10 : kk_d cX11_spreads 10 (.aload_n 0) 1 11 := ⟨by decide +kernel, rfl⟩
theorem e_X11_spreads_11 : kk_d cX11_spreads 11 (.getfield 80) 3 14 := ⟨by decide +kernel, rfl⟩
theorem e_X11_spreads_14 : kk_d cX11_spreads 14 (.iload_n 1) 1 15 := ⟨by decide +kernel, rfl⟩
theorem e_X11_spreads_15 : kk_d cX11_spreads 15 (.iload_n 3) 1 16 := ⟨by decide +kernel, rfl⟩
theorem e_X11_spreads_16 : kk_d cX11_spreads 16 .iastore 1 17 := ⟨by decide +kernel, rfl⟩
theorem e_X11_spreads_17 : kk_d cX11_spreads 17 (.iconst 0) 1 18 := ⟨by decide +kernel, rfl⟩
theorem e_X11_spreads_18 : kk_d cX11_spreads 18 (.istore 5) 2 20 := ⟨by decide +kernel, rfl⟩
theorem e_X11_spreads_20 : kk_d cX11_spreads 20 (.iload 5) 2 22 := ⟨by decide +kernel, rfl⟩
theorem e_X11_spreads_22 : kk_d cX11_spreads 22 (.iload 4) 2 24 := ⟨by decide +kernel, rfl⟩
theorem e_X11_spreads_24 : kk_dj cX11_spreads 24 (.if_icmp .ge 157) 3 (157) 27 181 := ⟨by decide +kernel, rfl, by decide⟩
theorem e_X11_spreads_181 : kk_d cX11_spreads 181 .return_ 1 182 := ⟨by decide +kernel, rfl⟩
theorem e_X11_spreads_27 : kk_d cX11_spreads 27 (.iconst 0) 1 28 := ⟨by decide +kernel, rfl⟩
theorem e_X11_spreads_28 : kk_d cX11_spreads 28 (.istore 6) 2 30 := ⟨by decide +kernel, rfl⟩
theorem e_X11_spreads_30 : kk_d cX11_spreads 30 (.iload 6) 2 32 := ⟨by decide +kernel, rfl⟩
theorem e_X11_spreads_32 : kk_d cX11_spreads 32 (.iload_n 2) 1 33 := ⟨by decide +kernel, rfl⟩
theorem e_X11_spreads_33 : kk_d cX11_spreads 33 (.iload_n 2) 1 34 := ⟨by decide +kernel, rfl⟩
theorem e_X11_spreads_34 : kk_d cX11_spreads 34 .imul 1 35 := ⟨by decide +kernel, rfl⟩
theorem e_X11_spreads_35 : kk_dj cX11_spreads 35 (.if_icmp .ge 140) 3 (140) 38 175 := ⟨by decide +kernel, rfl, by decide⟩
theorem e_X11_spreads_175 : kk_d cX11_spreads 175 (.iinc 5 1) 3 178 := ⟨by decide +kernel, rfl⟩
theorem e_X11_spreads_178 : kk_dj cX11_spreads 178 (.goto (-158)) 3 (-158) 181 20 := ⟨by decide +kernel, rfl, by decide⟩
theorem e_X11_spreads_38 : kk_d cX11_spreads 38 (.iload 6) 2 40 := ⟨by decide +kernel, rfl⟩
theorem e_X11_spreads_40 : kk_d cX11_spreads 40 (.iload_n 2) 1 41 := ⟨by decide +kernel, rfl⟩
theorem e_X11_spreads_41 : kk_d cX11_spreads 41 .idiv 1 42 := ⟨by decide +kernel, rfl⟩
theorem e_X11_spreads_42 : kk_d cX11_spreads 42 (.istore 7) 2 44 := ⟨by decide +kernel, rfl⟩
theorem e_X11_spreads_44 : kk_d cX11_spreads 44 (.iload 6) 2 46 := ⟨by decide +kernel, rfl⟩
theorem e_X11_spreads_46 : kk_d cX11_spreads 46 (.iload_n 2) 1 47 := ⟨by decide +kernel, rfl⟩
theorem e_X11_spreads_47 : kk_d cX11_spreads 47 .irem 1 48 := ⟨by decide +kernel, rfl⟩
theorem e_X11_spreads_48 : kk_d cX11_spreads 48 (.istore 8) 2 50 := ⟨by decide +kernel, rfl⟩
theorem e_X11_spreads_50 : kk_d cX11_spreads 50 (.iconst 0) 1 51 := ⟨by decide +kernel, rfl⟩
theorem e_X11_spreads_51 : kk_d cX11_spreads 51 (.istore 9) 2 53 := ⟨by decide +kernel, rfl⟩
theorem e_X11_spreads_169 : kk_d cX11_spreads 169 (.iinc 6 1) 3 172 := ⟨by decide +kernel, rfl⟩
theorem e_X11_spreads_172 : kk_dj cX11_spreads 172 (.goto (-142)) 3 (-142) 175 30 := ⟨by decide +kernel, rfl, by decide⟩
theorem e_X11_spreads_53 : kk_d cX11_spreads 53 (.iload 9) 2 55 := ⟨by decide +kernel, rfl⟩
theorem e_X11_spreads_55 : kk_d cX11_spreads 55 (.aload_n 0) 1 56 := ⟨by decide +kernel, rfl⟩
theorem e_X11_spreads_56 : kk_d cX11_spreads 56 (.getfield 21) 3 59 := ⟨by decide +kernel, rfl⟩
theorem e_X11_spreads_59 : kk_dj cX11_spreads 59 (.if_icmp .ge 110) 3 (110) 62 169 := ⟨by decide +kernel, rfl, by decide⟩
theorem e_X11_spreads_62 : kk_d cX11_spreads 62 (.iload 7) 2 64 := ⟨by decide +kernel, rfl⟩
theorem e_X11_spreads_64 : kk_d cX11_spreads 64 (.iload 8) 2 66 := ⟨by decide +kernel, rfl⟩
theorem e_X11_spreads_66 : kk_dj cX11_spreads 66 (.if_icmp .ge 103) 3 (103) 69 169 := ⟨by decide +kernel, rfl, by decide⟩
theorem e_X11_spreads_69 : kk_d cX11_spreads 69 (.aload_n 0) 1 70 := ⟨by decide +kernel, rfl⟩
theorem e_X11_spreads_70 : kk_d cX11_spreads 70 (.aload_n 0) 1 71 := ⟨by decide +kernel, rfl⟩
theorem e_X11_spreads_71 : kk_d cX11_spreads 71 (.getfield 83) 3 74 := ⟨by decide +kernel, rfl⟩
theorem e_X11_spreads_74 : kk_d cX11_spreads 74 (.iload 5) 2 76 := ⟨by decide +kernel, rfl⟩
theorem e_X11_spreads_76 : kk_d cX11_spreads 76 .iaload 1 77 := ⟨by decide +kernel, rfl⟩
theorem e_X11_spreads_77 : kk_d cX11_spreads 77 (.iload_n 2) 1 78 := ⟨by decide +kernel, rfl⟩
theorem e_X11_spreads_78 : kk_d cX11_spreads 78 (.invokevirtual 275) 3 81 := ⟨by decide +kernel, rfl⟩
theorem e_X11_spreads_81 : kk_d cX11_spreads 81 (.aload_n 0) 1 82 := ⟨by decide +kernel, rfl⟩
theorem e_X11_spreads_82 : kk_d cX11_spreads 82 (.getfield 77) 3 85 := ⟨by decide +kernel, rfl⟩
theorem e_X11_spreads_85 : kk_d cX11_spreads 85 (.aload_n 0) 1 86 := ⟨by decide +kernel, rfl⟩
theorem e_X11_spreads_86 : kk_d cX11_spreads 86 (.aload_n 0) 1 87 := ⟨by decide +kernel, rfl⟩
theorem e_X11_spreads_87 : kk_d cX11_spreads 87 (.getfield 77) 3 90 := ⟨by decide +kernel, rfl⟩
theorem e_X11_spreads_90 : kk_d cX11_spreads 90 (.iload 9) 2 92 := ⟨by decide +kernel, rfl⟩
theorem e_X11_spreads_92 : kk_d cX11_spreads 92 (.iload 7) 2 94 := ⟨by decide +kernel, rfl⟩
theorem e_X11_spreads_94 : kk_d cX11_spreads 94 (.iload 8) 2 96 := ⟨by decide +kernel, rfl⟩
theorem e_X11_spreads_96 : kk_d cX11_spreads 96 (.invokevirtual 152) 3 99 := ⟨by decide +kernel, rfl⟩
theorem e_X11_spreads_99 : kk_d cX11_spreads 99 (.iload 7) 2 101 := ⟨by decide +kernel, rfl⟩
theorem e_X11_spreads_101 : kk_d cX11_spreads 101 (.iload 8) 2 103 := ⟨by decide +kernel, rfl⟩
theorem e_X11_spreads_103 : kk_d cX11_spreads 103 (.invokestatic 156) 3 106 := ⟨by decide +kernel, rfl⟩
theorem e_X11_spreads_106 : kk_d cX11_spreads 106 (.aload_n 0) 1 107 := ⟨by decide +kernel, rfl⟩
theorem e_X11_spreads_107 : kk_d cX11_spreads 107 (.aload_n 0) 1 108 := ⟨by decide +kernel, rfl⟩
theorem e_X11_spreads_108 : kk_d cX11_spreads 108 (.getfield 77) 3 111 := ⟨by decide +kernel, rfl⟩
theorem e_X11_spreads_111 : kk_d cX11_spreads 111 (.iload_n 2) 1 112 := ⟨by decide +kernel, rfl⟩
theorem e_X11_spreads_112 : kk_d cX11_spreads 112 (.invokevirtual 278) 3 115 := ⟨by decide +kernel, rfl⟩
theorem e_X11_spreads_115 : kk_d cX11_spreads 115 (.istore 10) 2 117 := ⟨by decide +kernel, rfl⟩
theorem e_X11_spreads_117 : kk_d cX11_spreads 117 (.aload_n 0) 1 118 := ⟨by decide +kernel, rfl⟩
theorem e_X11_spreads_118 : kk_d cX11_spreads 118 (.getfield 80) 3 121 := ⟨by decide +kernel, rfl⟩
theorem e_X11_spreads_121 : kk_d cX11_spreads 121 (.iload 10) 2 123 := ⟨by decide +kernel, rfl⟩
theorem e_X11_spreads_123 : kk_d cX11_spreads 123 .iaload 1 124 := ⟨by decide +kernel, rfl⟩
theorem e_X11_spreads_124 : kk_dj cX11_spreads 124 (.ifCond .eq 6) 3 (6) 127 130 := ⟨by decide +kernel, rfl, by decide⟩
theorem e_X11_spreads_163 : kk_d cX11_spreads 163 (.iinc 9 1) 3 166 := ⟨by decide +kernel, rfl⟩
theorem e_X11_spreads_166 : kk_dj cX11_spreads 166 (.goto (-113)) 3 (-113) 169 53 := ⟨by decide +kernel, rfl, by decide⟩
theorem e_X11_spreads_130 : kk_d cX11_spreads 130 (.aload_n 0) 1 131 := ⟨by decide +kernel, rfl⟩
theorem e_X11_spreads_131 : kk_d cX11_spreads 131 (.getfield 80) 3 134 := ⟨by decide +kernel, rfl⟩
theorem e_X11_spreads_134 : kk_d cX11_spreads 134 (.iload 10) 2 136 := ⟨by decide +kernel, rfl⟩
theorem e_X11_spreads_136 : kk_d cX11_spreads 136 (.aload_n 0) 1 137 := ⟨by decide +kernel, rfl⟩
theorem e_X11_spreads_137 : kk_d cX11_spreads 137 (.getfield 80) 3 140 := ⟨by decide +kernel, rfl⟩
theorem e_X11_spreads_140 : kk_d cX11_spreads 140 (.aload_n 0) 1 141 := ⟨by decide +kernel, rfl⟩
theorem e_X11_spreads_141 : kk_d cX11_spreads 141 (.getfield 83) 3 144 := ⟨by decide +kernel, rfl⟩
theorem e_X11_spreads_144 : kk_d cX11_spreads 144 (.iload 5) 2 146 := ⟨by decide +kernel, rfl⟩
theorem e_X11_spreads_146 : kk_d cX11_spreads 146 .iaload 1 147 := ⟨by decide +kernel, rfl⟩
theorem e_X11_spreads_147 : kk_d cX11_spreads 147 .iaload 1 148 := ⟨by decide +kernel, rfl⟩
theorem e_X11_spreads_148 : kk_d cX11_spreads 148 (.iconst 1) 1 149 := ⟨by decide +kernel, rfl⟩
theorem e_X11_spreads_149 : kk_d cX11_spreads 149 .iadd 1 150 := ⟨by decide +kernel, rfl⟩
theorem e_X11_spreads_150 : kk_d cX11_spreads 150 .iastore 1 151 := ⟨by decide +kernel, rfl⟩
theorem e_X11_spreads_151 : kk_d cX11_spreads 151 (.aload_n 0) 1 152 := ⟨by decide +kernel, rfl⟩
theorem e_X11_spreads_152 : kk_d cX11_spreads 152 (.getfield 83) 3 155 := ⟨by decide +kernel, rfl⟩
theorem e_X11_spreads_155 : kk_d cX11_spreads 155 (.iload 4) 2 157 := ⟨by decide +kernel, rfl⟩
theorem e_X11_spreads_157 : kk_d cX11_spreads 157 (.iload 10) 2 159 := ⟨by decide +kernel, rfl⟩
theorem e_X11_spreads_159 : kk_d cX11_spreads 159 .iastore 1 160 := ⟨by decide +kernel, rfl⟩
theorem e_X11_spreads_160 : kk_d cX11_spreads 160 (.iinc 4 1) 3 163 := ⟨by decide +kernel, rfl⟩
theorem e_X11_spreads_127 : kk_dj cX11_spreads 127 (.goto 36) 3 (36) 130 163 := ⟨by decide +kernel, rfl, by decide⟩
set_option maxRecDepth 4000 in
theorem s_X11_spreads (Z : kk_Z) (v1 : Int32) (v2 : Int32) (v3 : Int32) (σ : kk_St) (Q : kk_St → Prop) (h : f_X11_spreads v1 v2 v3 σ Q) : kk_M Z sh_M yX11_spreads cX11_spreads 11 none (kk_R 4) [.ref (Z.2.1 0), .int v1, .int v2, .int v3] σ (kk_Qv Z sh_M Q) := by
  unfold f_X11_spreads at h
  refine kk_met (own := RX11) (by decide) rfl (Nat.le_of_ble_eq_true rfl) rfl ?_
  refine kk_iconst ic_1 e_X11_spreads_0 ?_
  refine kk_istore (lv' := [(4, .int (1 : Int32)), (0, .ref (Z.2.1 0)), (1, .int v1), (2, .int v2), (3, .int v3)]) e_X11_spreads_1 (by decide) rfl ?_
  refine kk_aload_n 1 rfl e_X11_spreads_3 ?_
  refine kk_getr e_X11_spreads_4 fl_X11_83 rfl rfl ?_
  refine kk_iconst ic_0 e_X11_spreads_7 ?_
  refine kk_iload_n 2 rfl e_X11_spreads_8 ?_
  refine kk_iast e_X11_spreads_9 rfl h.1 ?_
  replace h := h.2
  refine kk_tops (fun σ_1 eσ_1 => ?_)
  replace h := h σ_1 eσ_1
  refine kk_aload_n 1 rfl e_X11_spreads_10 ?_
  refine kk_getr e_X11_spreads_11 fl_X11_80 rfl rfl ?_
  refine kk_iload_n 2 rfl e_X11_spreads_14 ?_
  refine kk_iload_n 4 rfl e_X11_spreads_15 ?_
  refine kk_iast e_X11_spreads_16 rfl h.1 ?_
  replace h := h.2
  refine kk_tops (fun σ_2 eσ_2 => ?_)
  replace h := h σ_2 eσ_2
  refine kk_iconst ic_0 e_X11_spreads_17 ?_
  refine kk_istore (lv' := [(5, .int (0 : Int32)), (4, .int (1 : Int32)), (0, .ref (Z.2.1 0)), (1, .int v1), (2, .int v2), (3, .int v3)]) e_X11_spreads_18 (by decide) rfl ?_
  refine kk_sub [2, 4, 1, 0] rfl ?_
  refine kk_lpW3 (P := fun (v4_3 : Int32) (v5_4 : Int32) (σ_5 : kk_St) => KK Z sh_M RX11 cX11_spreads 11 none (kk_R 4) (kk_Qv Z sh_M Q) 20 [(0, .ref (Z.2.1 0)), (2, .int v2), (4, .int v4_3), (5, .int v5_4)] [] σ_5) ?_ h
  intro rec_6 hrec_6 v4_3 v5_4 σ_5 h
  refine kk_iload 3 rfl e_X11_spreads_20 ?_
  refine kk_iload 2 rfl e_X11_spreads_22 ?_
  refine kk_icmp_ge e_X11_spreads_24 (fun c_32 => ?_) (fun c_32 => ?_)
  · replace h := h.1 c_32
    exact kk_vret e_X11_spreads_181 h
  · replace h := h.2 c_32
    refine kk_iconst ic_0 e_X11_spreads_27 ?_
    refine kk_istore (lv' := [(6, .int (0 : Int32)), (0, .ref (Z.2.1 0)), (2, .int v2), (4, .int v4_3), (5, .int v5_4)]) e_X11_spreads_28 (by decide) rfl ?_
    refine kk_sub [1, 2, 3, 4, 0] rfl ?_
    refine kk_lpW3 (P := fun (v4_7 : Int32) (v6_8 : Int32) (σ_9 : kk_St) => KK Z sh_M RX11 cX11_spreads 11 none (kk_R 4) (kk_Qv Z sh_M Q) 30 [(0, .ref (Z.2.1 0)), (2, .int v2), (4, .int v4_7), (5, .int v5_4), (6, .int v6_8)] [] σ_9) ?_ h
    intro rec_10 hrec_10 v4_7 v6_8 σ_9 h
    refine kk_iload 4 rfl e_X11_spreads_30 ?_
    refine kk_iload_n 1 rfl e_X11_spreads_32 ?_
    refine kk_iload_n 1 rfl e_X11_spreads_33 ?_
    refine kk_imul e_X11_spreads_34 ?_
    refine kk_icmp_ge e_X11_spreads_35 (fun c_31 => ?_) (fun c_31 => ?_)
    · replace h := h.1 c_31
      refine kk_iinc (lv' := [(5, .int (v5_4 + (1 : Int32))), (0, .ref (Z.2.1 0)), (2, .int v2), (4, .int v4_7), (6, .int v6_8)]) e_X11_spreads_175 (j := 3) rfl (ii_1 v5_4) (by decide) rfl ?_
      refine kk_goto e_X11_spreads_178 ?_
      exact kk_sub [1, 2, 3, 0] rfl (hrec_6 v4_7 (v5_4 + (1 : Int32)) σ_9 h)
    · replace h := h.2 c_31
      refine kk_iload 4 rfl e_X11_spreads_38 ?_
      refine kk_iload_n 1 rfl e_X11_spreads_40 ?_
      refine kk_idiv h.1 e_X11_spreads_41 ?_
      replace h := h.2
      refine kk_istore (lv' := [(7, .int (v6_8 / v2)), (0, .ref (Z.2.1 0)), (2, .int v2), (4, .int v4_7), (5, .int v5_4), (6, .int v6_8)]) e_X11_spreads_42 (by decide) rfl ?_
      refine kk_iload 5 rfl e_X11_spreads_44 ?_
      refine kk_iload_n 2 rfl e_X11_spreads_46 ?_
      refine kk_irem h.1 e_X11_spreads_47 ?_
      replace h := h.2
      refine kk_istore (lv' := [(8, .int (v6_8 - v6_8 / v2 * v2)), (7, .int (v6_8 / v2)), (0, .ref (Z.2.1 0)), (2, .int v2), (4, .int v4_7), (5, .int v5_4), (6, .int v6_8)]) e_X11_spreads_48 (by decide) rfl ?_
      refine kk_iconst ic_0 e_X11_spreads_50 ?_
      refine kk_istore (lv' := [(9, .int (0 : Int32)), (8, .int (v6_8 - v6_8 / v2 * v2)), (7, .int (v6_8 / v2)), (0, .ref (Z.2.1 0)), (2, .int v2), (4, .int v4_7), (5, .int v5_4), (6, .int v6_8)]) e_X11_spreads_51 (by decide) rfl ?_
      refine kk_jW2 (P := fun (v4_11 : Int32) (σ_12 : kk_St) => KK Z sh_M RX11 cX11_spreads 11 none (kk_R 4) (kk_Qv Z sh_M Q) 169 [(0, .ref (Z.2.1 0)), (2, .int v2), (4, .int v4_11), (5, .int v5_4), (6, .int v6_8)] [] σ_12) h ?_ ?_
      · intro v4_11 σ_12 h
        refine kk_iinc (lv' := [(6, .int (v6_8 + (1 : Int32))), (0, .ref (Z.2.1 0)), (2, .int v2), (4, .int v4_11), (5, .int v5_4)]) e_X11_spreads_169 (j := 4) rfl (ii_1 v6_8) (by decide) rfl ?_
        refine kk_goto e_X11_spreads_172 ?_
        exact kk_sub [1, 2, 3, 4, 0] rfl (hrec_10 v4_11 (v6_8 + (1 : Int32)) σ_12 h)
      · intro J_13 hJ_13 h
        refine kk_sub [3, 4, 5, 6, 7, 2, 1, 0] rfl ?_
        refine kk_lpW3 (P := fun (v4_14 : Int32) (v9_15 : Int32) (σ_16 : kk_St) => KK Z sh_M RX11 cX11_spreads 11 none (kk_R 4) (kk_Qv Z sh_M Q) 53 [(0, .ref (Z.2.1 0)), (2, .int v2), (4, .int v4_14), (5, .int v5_4), (6, .int v6_8), (7, .int (v6_8 / v2)), (8, .int (v6_8 - v6_8 / v2 * v2)), (9, .int v9_15)] [] σ_16) ?_ h
        intro rec_17 hrec_17 v4_14 v9_15 σ_16 h
        refine kk_iload 7 rfl e_X11_spreads_53 ?_
        refine kk_aload_n 0 rfl e_X11_spreads_55 ?_
        refine kk_geti e_X11_spreads_56 fl_X11_21 rfl rfl ?_
        refine kk_icmp_ge e_X11_spreads_59 (fun c_30 => ?_) (fun c_30 => ?_)
        · replace h := h.1 c_30
          exact kk_sub [0, 1, 2, 3, 4] rfl (hJ_13 v4_14 σ_16 h)
        · replace h := h.2 c_30
          refine kk_iload 5 rfl e_X11_spreads_62 ?_
          refine kk_iload 6 rfl e_X11_spreads_64 ?_
          refine kk_icmp_ge e_X11_spreads_66 (fun c_29 => ?_) (fun c_29 => ?_)
          · replace h := h.1 c_29
            exact kk_sub [0, 1, 2, 3, 4] rfl (hJ_13 v4_14 σ_16 h)
          · replace h := h.2 c_29
            refine kk_aload_n 0 rfl e_X11_spreads_69 ?_
            refine kk_aload_n 0 rfl e_X11_spreads_70 ?_
            refine kk_getr e_X11_spreads_71 fl_X11_83 rfl rfl ?_
            refine kk_iload 3 rfl e_X11_spreads_74 ?_
            refine kk_iald e_X11_spreads_76 rfl h.1 ?_
            replace h := h.2
            refine kk_iload_n 1 rfl e_X11_spreads_77 ?_
            refine kk_callVv (As := [.int (kk_rd σ_16 20 v5_4), .int v2]) (rest := []) e_X11_spreads_78 ml_X11_275 ⟨_, _, _, _, rfl, rfl⟩ rfl (kk_fitR (by decide) (by decide)) (Nat.le_of_ble_eq_true rfl) rfl (s_X11_laysTrial Z (kk_rd σ_16 20 v5_4) v2 σ_16 _ h) (fun σ_18 h => ?_)
            refine kk_aload_n 0 rfl e_X11_spreads_81 ?_
            refine kk_getr e_X11_spreads_82 fl_X11_77 rfl rfl ?_
            refine kk_aload_n 0 rfl e_X11_spreads_85 ?_
            refine kk_aload_n 0 rfl e_X11_spreads_86 ?_
            refine kk_getr e_X11_spreads_87 fl_X11_77 rfl rfl ?_
            refine kk_iload 7 rfl e_X11_spreads_90 ?_
            refine kk_iload 5 rfl e_X11_spreads_92 ?_
            refine kk_iload 6 rfl e_X11_spreads_94 ?_
            refine kk_callVi (As := [.ref (Z.2.1 18), .int v9_15, .int (v6_8 / v2), .int (v6_8 - v6_8 / v2 * v2)]) (rest := [.ref (Z.2.1 18)]) e_X11_spreads_96 ml_X11_152 ⟨_, _, _, _, rfl, rfl⟩ rfl (kk_fitR (by decide) (by decide)) (Nat.le_of_ble_eq_true rfl) rfl (s_X11_chainIn Z 18 20 v9_15 (v6_8 / v2) (v6_8 - v6_8 / v2 * v2) σ_18 _ rfl h) (fun r_19 σ_20 h => ?_)
            refine kk_iload 5 rfl e_X11_spreads_99 ?_
            refine kk_iload 6 rfl e_X11_spreads_101 ?_
            refine kk_callSv (As := [.ref (Z.2.1 18), .int r_19, .int (v6_8 / v2), .int (v6_8 - v6_8 / v2 * v2)]) (rest := []) e_X11_spreads_103 ml_X11_156 rfl (kk_fitR (by decide) (by decide)) (Nat.le_of_ble_eq_true rfl) rfl (s_X11_flips Z 18 20 r_19 (v6_8 / v2) (v6_8 - v6_8 / v2 * v2) σ_20 _ rfl h) (fun σ_21 h => ?_)
            refine kk_aload_n 0 rfl e_X11_spreads_106 ?_
            refine kk_aload_n 0 rfl e_X11_spreads_107 ?_
            refine kk_getr e_X11_spreads_108 fl_X11_77 rfl rfl ?_
            refine kk_iload_n 1 rfl e_X11_spreads_111 ?_
            refine kk_callVip (As := [.ref (Z.2.1 18), .int v2]) (rest := []) e_X11_spreads_112 ml_X11_278 ⟨_, _, _, _, rfl, rfl⟩ rfl (kk_fitR (by decide) (by decide)) (Nat.le_of_ble_eq_true rfl) rfl (s_X11_codeOf Z 18 20 v2 σ_21 _ rfl h) (fun r_22 h => ?_)
            refine kk_istore (lv' := [(10, .int r_22), (0, .ref (Z.2.1 0)), (2, .int v2), (4, .int v4_14), (5, .int v5_4), (6, .int v6_8), (7, .int (v6_8 / v2)), (8, .int (v6_8 - v6_8 / v2 * v2)), (9, .int v9_15)]) e_X11_spreads_115 (by decide) rfl ?_
            refine kk_aload_n 1 rfl e_X11_spreads_117 ?_
            refine kk_getr e_X11_spreads_118 fl_X11_80 rfl rfl ?_
            refine kk_iload 0 rfl e_X11_spreads_121 ?_
            refine kk_iald e_X11_spreads_123 rfl h.1 ?_
            replace h := h.2
            refine kk_jW2 (P := fun (v4_23 : Int32) (σ_24 : kk_St) => KK Z sh_M RX11 cX11_spreads 11 none (kk_R 4) (kk_Qv Z sh_M Q) 163 [(0, .ref (Z.2.1 0)), (2, .int v2), (4, .int v4_23), (5, .int v5_4), (6, .int v6_8), (7, .int (v6_8 / v2)), (8, .int (v6_8 - v6_8 / v2 * v2)), (9, .int v9_15)] [] σ_24) h ?_ ?_
            · intro v4_23 σ_24 h
              refine kk_iinc (lv' := [(9, .int (v9_15 + (1 : Int32))), (0, .ref (Z.2.1 0)), (2, .int v2), (4, .int v4_23), (5, .int v5_4), (6, .int v6_8), (7, .int (v6_8 / v2)), (8, .int (v6_8 - v6_8 / v2 * v2))]) e_X11_spreads_163 (j := 7) rfl (ii_1 v9_15) (by decide) rfl ?_
              refine kk_goto e_X11_spreads_166 ?_
              exact kk_sub [1, 2, 3, 4, 5, 6, 7, 0] rfl (hrec_17 v4_23 (v9_15 + (1 : Int32)) σ_24 h)
            · intro J_25 hJ_25 h
              refine kk_if_eq e_X11_spreads_124 (fun c_28 => ?_) (fun c_28 => ?_)
              · replace h := h.1 c_28
                refine kk_aload_n 1 rfl e_X11_spreads_130 ?_
                refine kk_getr e_X11_spreads_131 fl_X11_80 rfl rfl ?_
                refine kk_iload 0 rfl e_X11_spreads_134 ?_
                refine kk_aload_n 1 rfl e_X11_spreads_136 ?_
                refine kk_getr e_X11_spreads_137 fl_X11_80 rfl rfl ?_
                refine kk_aload_n 1 rfl e_X11_spreads_140 ?_
                refine kk_getr e_X11_spreads_141 fl_X11_83 rfl rfl ?_
                refine kk_iload 4 rfl e_X11_spreads_144 ?_
                refine kk_iald e_X11_spreads_146 rfl h.1 ?_
                replace h := h.2
                refine kk_iald e_X11_spreads_147 rfl h.1 ?_
                replace h := h.2
                refine kk_iconst ic_1 e_X11_spreads_148 ?_
                refine kk_iadd e_X11_spreads_149 ?_
                refine kk_iast e_X11_spreads_150 rfl h.1 ?_
                replace h := h.2
                refine kk_tops (fun σ_26 eσ_26 => ?_)
                replace h := h σ_26 eσ_26
                refine kk_aload_n 1 rfl e_X11_spreads_151 ?_
                refine kk_getr e_X11_spreads_152 fl_X11_83 rfl rfl ?_
                refine kk_iload 3 rfl e_X11_spreads_155 ?_
                refine kk_iload 0 rfl e_X11_spreads_157 ?_
                refine kk_iast e_X11_spreads_159 rfl h.1 ?_
                replace h := h.2
                refine kk_tops (fun σ_27 eσ_27 => ?_)
                replace h := h σ_27 eσ_27
                refine kk_iinc (lv' := [(4, .int (v4_14 + (1 : Int32))), (10, .int r_22), (0, .ref (Z.2.1 0)), (2, .int v2), (5, .int v5_4), (6, .int v6_8), (7, .int (v6_8 / v2)), (8, .int (v6_8 - v6_8 / v2 * v2)), (9, .int v9_15)]) e_X11_spreads_160 (j := 3) rfl (ii_1 v4_14) (by decide) rfl ?_
                exact kk_sub [2, 3, 0, 4, 5, 6, 7, 8] rfl (hJ_25 (v4_14 + (1 : Int32)) σ_27 h)
              · replace h := h.2 c_28
                refine kk_goto e_X11_spreads_127 ?_
                exact kk_sub [1, 2, 3, 4, 5, 6, 7, 8] rfl (hJ_25 v4_14 σ_21 h)
theorem e_X11_kinds_0 : kk_d cX11_kinds 0 (.iload_n 1) 1 1 := ⟨by decide +kernel, rfl⟩
theorem e_X11_kinds_1 : kk_d cX11_kinds 1 (.iconst 1) 1 2 := ⟨by decide +kernel, rfl⟩
theorem e_X11_kinds_2 : kk_d cX11_kinds 2 (.iconst 4) 1 3 := ⟨by decide +kernel, rfl⟩
theorem e_X11_kinds_3 : kk_d cX11_kinds 3 (.invokestatic 92) 3 6 := ⟨by decide +kernel, rfl⟩
theorem e_X11_kinds_6 : kk_dj cX11_kinds 6 (.ifCond .ne 5) 3 (5) 9 11 := ⟨by decide +kernel, rfl, by decide⟩
theorem e_X11_kinds_11 : kk_d cX11_kinds 11 (.aload_n 0) 1 12 := ⟨by decide +kernel, rfl⟩
theorem e_X11_kinds_12 : kk_d cX11_kinds 12 (.getfield 96) 3 15 := ⟨by decide +kernel, rfl⟩
theorem e_X11_kinds_15 : kk_d cX11_kinds 15 (.bipush 6) 2 17 := ⟨by decide +kernel, rfl⟩
theorem e_X11_kinds_17 : kk_dj cX11_kinds 17 (.if_icmp .le 6) 3 (6) 20 23 := ⟨by decide +kernel, rfl, by decide⟩
theorem e_X11_kinds_23 : kk_d cX11_kinds 23 (.iconst 0) 1 24 := ⟨by decide +kernel, rfl⟩
theorem e_X11_kinds_24 : kk_d cX11_kinds 24 (.istore_n 2) 1 25 := ⟨by decide +kernel, rfl⟩
theorem e_X11_kinds_25 : kk_d cX11_kinds 25 (.iload_n 2) 1 26 := ⟨by decide +kernel, rfl⟩
theorem e_X11_kinds_26 : kk_d cX11_kinds 26 (.aload_n 0) 1 27 := ⟨by decide +kernel, rfl⟩
theorem e_X11_kinds_27 : kk_d cX11_kinds 27 (.iload_n 1) 1 28 := ⟨by decide +kernel, rfl⟩
theorem e_X11_kinds_28 : kk_d cX11_kinds 28 (.invokevirtual 282) 3 31 := ⟨by decide +kernel, rfl⟩
theorem e_X11_kinds_31 : kk_dj cX11_kinds 31 (.if_icmp .ge 16) 3 (16) 34 47 := ⟨by decide +kernel, rfl, by decide⟩
theorem e_X11_kinds_47 : kk_d cX11_kinds 47 (.iconst 0) 1 48 := ⟨by decide +kernel, rfl⟩
theorem e_X11_kinds_48 : kk_d cX11_kinds 48 (.istore_n 2) 1 49 := ⟨by decide +kernel, rfl⟩
theorem e_X11_kinds_49 : kk_d cX11_kinds 49 (.iconst 0) 1 50 := ⟨by decide +kernel, rfl⟩
theorem e_X11_kinds_50 : kk_d cX11_kinds 50 (.istore_n 3) 1 51 := ⟨by decide +kernel, rfl⟩
theorem e_X11_kinds_51 : kk_d cX11_kinds 51 (.iload_n 3) 1 52 := ⟨by decide +kernel, rfl⟩
theorem e_X11_kinds_52 : kk_d cX11_kinds 52 (.aload_n 0) 1 53 := ⟨by decide +kernel, rfl⟩
theorem e_X11_kinds_53 : kk_d cX11_kinds 53 (.iload_n 1) 1 54 := ⟨by decide +kernel, rfl⟩
theorem e_X11_kinds_54 : kk_d cX11_kinds 54 (.invokevirtual 282) 3 57 := ⟨by decide +kernel, rfl⟩
theorem e_X11_kinds_57 : kk_dj cX11_kinds 57 (.if_icmp .ge 44) 3 (44) 60 101 := ⟨by decide +kernel, rfl, by decide⟩
theorem e_X11_kinds_101 : kk_d cX11_kinds 101 (.iload_n 2) 1 102 := ⟨by decide +kernel, rfl⟩
theorem e_X11_kinds_102 : kk_d cX11_kinds 102 .ireturn 1 103 := ⟨by decide +kernel, rfl⟩
theorem e_X11_kinds_60 : kk_d cX11_kinds 60 (.aload_n 0) 1 61 := ⟨by decide +kernel, rfl⟩
theorem e_X11_kinds_61 : kk_d cX11_kinds 61 (.iload_n 3) 1 62 := ⟨by decide +kernel, rfl⟩
theorem e_X11_kinds_62 : kk_d cX11_kinds 62 (.iload_n 1) 1 63 := ⟨by decide +kernel, rfl⟩
theorem e_X11_kinds_63 : kk_d cX11_kinds 63 (.invokevirtual 275) 3 66 := ⟨by decide +kernel, rfl⟩
theorem e_X11_kinds_66 : kk_d cX11_kinds 66 (.aload_n 0) 1 67 := ⟨by decide +kernel, rfl⟩
theorem e_X11_kinds_67 : kk_d cX11_kinds 67 (.getfield 80) 3 70 := ⟨by decide +kernel, rfl⟩
theorem e_X11_kinds_70 : kk_d cX11_kinds 70 (.iload_n 3) 1 71 := ⟨by decide +kernel, rfl⟩
theorem e_X11_kinds_71 : kk_d cX11_kinds 71 .iaload 1 72 := ⟨by decide +kernel, rfl⟩
theorem e_X11_kinds_72 : kk_dj cX11_kinds 72 (.ifCond .ne 23) 3 (23) 75 95 := ⟨by decide +kernel, rfl, by decide⟩
theorem e_X11_kinds_95 : kk_d cX11_kinds 95 (.iinc 3 1) 3 98 := ⟨by decide +kernel, rfl⟩
theorem e_X11_kinds_98 : kk_dj cX11_kinds 98 (.goto (-47)) 3 (-47) 101 51 := ⟨by decide +kernel, rfl, by decide⟩
theorem e_X11_kinds_75 : kk_d cX11_kinds 75 (.aload_n 0) 1 76 := ⟨by decide +kernel, rfl⟩
theorem e_X11_kinds_76 : kk_d cX11_kinds 76 (.invokevirtual 285) 3 79 := ⟨by decide +kernel, rfl⟩
theorem e_X11_kinds_79 : kk_dj cX11_kinds 79 (.ifCond .ne 6) 3 (6) 82 85 := ⟨by decide +kernel, rfl, by decide⟩
theorem e_X11_kinds_85 : kk_d cX11_kinds 85 (.aload_n 0) 1 86 := ⟨by decide +kernel, rfl⟩
theorem e_X11_kinds_86 : kk_d cX11_kinds 86 (.iload_n 3) 1 87 := ⟨by decide +kernel, rfl⟩
theorem e_X11_kinds_87 : kk_d cX11_kinds 87 (.iload_n 1) 1 88 := ⟨by decide +kernel, rfl⟩
theorem e_X11_kinds_88 : kk_d cX11_kinds 88 (.iconst 1) 1 89 := ⟨by decide +kernel, rfl⟩
theorem e_X11_kinds_89 : kk_d cX11_kinds 89 (.invokevirtual 288) 3 92 := ⟨by decide +kernel, rfl⟩
theorem e_X11_kinds_92 : kk_d cX11_kinds 92 (.iinc 2 1) 3 95 := ⟨by decide +kernel, rfl⟩
theorem e_X11_kinds_82 : kk_dj cX11_kinds 82 (.goto 13) 3 (13) 85 95 := ⟨by decide +kernel, rfl, by decide⟩
theorem e_X11_kinds_34 : kk_d cX11_kinds 34 (.aload_n 0) 1 35 := ⟨by decide +kernel, rfl⟩
theorem e_X11_kinds_35 : kk_d cX11_kinds 35 (.getfield 80) 3 38 := ⟨by decide +kernel, rfl⟩
theorem e_X11_kinds_38 : kk_d cX11_kinds 38 (.iload_n 2) 1 39 := ⟨by decide +kernel, rfl⟩
theorem e_X11_kinds_39 : kk_d cX11_kinds 39 (.iconst 0) 1 40 := ⟨by decide +kernel, rfl⟩
theorem e_X11_kinds_40 : kk_d cX11_kinds 40 .iastore 1 41 := ⟨by decide +kernel, rfl⟩
theorem e_X11_kinds_41 : kk_d cX11_kinds 41 (.iinc 2 1) 3 44 := ⟨by decide +kernel, rfl⟩
theorem e_X11_kinds_44 : kk_dj cX11_kinds 44 (.goto (-19)) 3 (-19) 47 25 := ⟨by decide +kernel, rfl, by decide⟩
theorem e_X11_kinds_20 : kk_d cX11_kinds 20 (.bipush (-2)) 2 22 := ⟨by decide +kernel, rfl⟩
theorem e_X11_kinds_22 : kk_d cX11_kinds 22 .ireturn 1 23 := ⟨by decide +kernel, rfl⟩
theorem e_X11_kinds_9 : kk_d cX11_kinds 9 (.iconst (-1)) 1 10 := ⟨by decide +kernel, rfl⟩
theorem e_X11_kinds_10 : kk_d cX11_kinds 10 .ireturn 1 11 := ⟨by decide +kernel, rfl⟩
set_option maxRecDepth 4000 in
theorem s_X11_kinds (Z : kk_Z) (v1 : Int32) (σ : kk_St) (Q : Int32 → kk_St → Prop) (h : f_X11_kinds v1 σ Q) : kk_M Z sh_M yX11_kinds cX11_kinds 4 (some .int) (kk_R 5) [.ref (Z.2.1 0), .int v1] σ (kk_Qi Z sh_M Q) := by
  unfold f_X11_kinds at h
  refine kk_met (own := RX11) (by decide) rfl (Nat.le_of_ble_eq_true rfl) rfl ?_
  refine kk_iload_n 1 rfl e_X11_kinds_0 ?_
  refine kk_iconst ic_1 e_X11_kinds_1 ?_
  refine kk_iconst ic_4 e_X11_kinds_2 ?_
  refine kk_callSip (As := [.int v1, .int (1 : Int32), .int (4 : Int32)]) (rest := []) e_X11_kinds_3 ml_X11_92 rfl (kk_fitR (by decide) (by decide)) (Nat.le_of_ble_eq_true rfl) rfl (s_X11_in Z v1 (1 : Int32) (4 : Int32) σ _ h) (fun r_1 h => ?_)
  refine kk_if_ne e_X11_kinds_6 (fun c_23 => ?_) (fun c_23 => ?_)
  · replace h := h.1 c_23
    refine kk_aload_n 0 rfl e_X11_kinds_11 ?_
    refine kk_geti e_X11_kinds_12 fl_X11_96 rfl rfl ?_
    refine kk_bipush bp_6 e_X11_kinds_15 ?_
    refine kk_icmp_le e_X11_kinds_17 (fun c_22 => ?_) (fun c_22 => ?_)
    · replace h := h.1 c_22
      refine kk_iconst ic_0 e_X11_kinds_23 ?_
      refine kk_istore_n (lv' := [(2, .int (0 : Int32)), (0, .ref (Z.2.1 0)), (1, .int v1)]) e_X11_kinds_24 rfl (by decide) rfl ?_
      refine kk_sub [1, 2, 0] rfl ?_
      refine kk_lpW2 (P := fun (v2_2 : Int32) (σ_3 : kk_St) => KK Z sh_M RX11 cX11_kinds 4 (some .int) (kk_R 5) (kk_Qi Z sh_M Q) 25 [(0, .ref (Z.2.1 0)), (1, .int v1), (2, .int v2_2)] [] σ_3) ?_ h
      intro rec_4 hrec_4 v2_2 σ_3 h
      refine kk_iload_n 2 rfl e_X11_kinds_25 ?_
      refine kk_aload_n 0 rfl e_X11_kinds_26 ?_
      refine kk_iload_n 1 rfl e_X11_kinds_27 ?_
      refine kk_callVip (As := [.int v1]) (rest := [.int v2_2]) e_X11_kinds_28 ml_X11_282 ⟨_, _, _, _, rfl, rfl⟩ rfl (kk_fitR (by decide) (by decide)) (Nat.le_of_ble_eq_true rfl) rfl (s_X11_codes Z v1 σ_3 _ h) (fun r_5 h => ?_)
      refine kk_icmp_ge e_X11_kinds_31 (fun c_21 => ?_) (fun c_21 => ?_)
      · replace h := h.1 c_21
        refine kk_iconst ic_0 e_X11_kinds_47 ?_
        refine kk_istore_n (lv' := [(2, .int (0 : Int32)), (0, .ref (Z.2.1 0)), (1, .int v1)]) e_X11_kinds_48 rfl (by decide) rfl ?_
        refine kk_iconst ic_0 e_X11_kinds_49 ?_
        refine kk_istore_n (lv' := [(3, .int (0 : Int32)), (2, .int (0 : Int32)), (0, .ref (Z.2.1 0)), (1, .int v1)]) e_X11_kinds_50 rfl (by decide) rfl ?_
        refine kk_sub [2, 3, 1, 0] rfl ?_
        refine kk_lpW3 (P := fun (v2_6 : Int32) (v3_7 : Int32) (σ_8 : kk_St) => KK Z sh_M RX11 cX11_kinds 4 (some .int) (kk_R 5) (kk_Qi Z sh_M Q) 51 [(0, .ref (Z.2.1 0)), (1, .int v1), (2, .int v2_6), (3, .int v3_7)] [] σ_8) ?_ h
        intro rec_9 hrec_9 v2_6 v3_7 σ_8 h
        refine kk_iload_n 3 rfl e_X11_kinds_51 ?_
        refine kk_aload_n 0 rfl e_X11_kinds_52 ?_
        refine kk_iload_n 1 rfl e_X11_kinds_53 ?_
        refine kk_callVip (As := [.int v1]) (rest := [.int v3_7]) e_X11_kinds_54 ml_X11_282 ⟨_, _, _, _, rfl, rfl⟩ rfl (kk_fitR (by decide) (by decide)) (Nat.le_of_ble_eq_true rfl) rfl (s_X11_codes Z v1 σ_8 _ h) (fun r_10 h => ?_)
        refine kk_icmp_ge e_X11_kinds_57 (fun c_19 => ?_) (fun c_19 => ?_)
        · replace h := h.1 c_19
          refine kk_iload_n 2 rfl e_X11_kinds_101 ?_
          exact kk_iret e_X11_kinds_102 h
        · replace h := h.2 c_19
          refine kk_aload_n 0 rfl e_X11_kinds_60 ?_
          refine kk_iload_n 3 rfl e_X11_kinds_61 ?_
          refine kk_iload_n 1 rfl e_X11_kinds_62 ?_
          refine kk_callVv (As := [.int v3_7, .int v1]) (rest := []) e_X11_kinds_63 ml_X11_275 ⟨_, _, _, _, rfl, rfl⟩ rfl (kk_fitR (by decide) (by decide)) (Nat.le_of_ble_eq_true rfl) rfl (s_X11_laysTrial Z v3_7 v1 σ_8 _ h) (fun σ_11 h => ?_)
          refine kk_aload_n 0 rfl e_X11_kinds_66 ?_
          refine kk_getr e_X11_kinds_67 fl_X11_80 rfl rfl ?_
          refine kk_iload_n 3 rfl e_X11_kinds_70 ?_
          refine kk_iald e_X11_kinds_71 rfl h.1 ?_
          replace h := h.2
          refine kk_jW2 (P := fun (v2_12 : Int32) (σ_13 : kk_St) => KK Z sh_M RX11 cX11_kinds 4 (some .int) (kk_R 5) (kk_Qi Z sh_M Q) 95 [(0, .ref (Z.2.1 0)), (1, .int v1), (2, .int v2_12), (3, .int v3_7)] [] σ_13) h ?_ ?_
          · intro v2_12 σ_13 h
            refine kk_iinc (lv' := [(3, .int (v3_7 + (1 : Int32))), (0, .ref (Z.2.1 0)), (1, .int v1), (2, .int v2_12)]) e_X11_kinds_95 (j := 3) rfl (ii_1 v3_7) (by decide) rfl ?_
            refine kk_goto e_X11_kinds_98 ?_
            exact kk_sub [1, 2, 3, 0] rfl (hrec_9 v2_12 (v3_7 + (1 : Int32)) σ_13 h)
          · intro J_14 hJ_14 h
            refine kk_if_ne e_X11_kinds_72 (fun c_18 => ?_) (fun c_18 => ?_)
            · replace h := h.1 c_18
              exact kk_sub [0, 1, 2, 3] rfl (hJ_14 v2_6 σ_11 h)
            · replace h := h.2 c_18
              refine kk_aload_n 0 rfl e_X11_kinds_75 ?_
              refine kk_callVip (As := []) (rest := []) e_X11_kinds_76 ml_X11_285 ⟨_, _, _, _, rfl, rfl⟩ rfl (kk_fitR (by decide) (by decide)) (Nat.le_of_ble_eq_true rfl) rfl (s_X11_isTrialFit Z σ_11 _ h) (fun r_15 h => ?_)
              refine kk_if_ne e_X11_kinds_79 (fun c_17 => ?_) (fun c_17 => ?_)
              · replace h := h.1 c_17
                refine kk_aload_n 0 rfl e_X11_kinds_85 ?_
                refine kk_iload_n 3 rfl e_X11_kinds_86 ?_
                refine kk_iload_n 1 rfl e_X11_kinds_87 ?_
                refine kk_iconst ic_1 e_X11_kinds_88 ?_
                refine kk_callVv (As := [.int v3_7, .int v1, .int (1 : Int32)]) (rest := []) e_X11_kinds_89 ml_X11_288 ⟨_, _, _, _, rfl, rfl⟩ rfl (kk_fitR (by decide) (by decide)) (Nat.le_of_ble_eq_true rfl) rfl (s_X11_spreads Z v3_7 v1 (1 : Int32) σ_11 _ h) (fun σ_16 h => ?_)
                refine kk_iinc (lv' := [(2, .int (v2_6 + (1 : Int32))), (0, .ref (Z.2.1 0)), (1, .int v1), (3, .int v3_7)]) e_X11_kinds_92 (j := 2) rfl (ii_1 v2_6) (by decide) rfl ?_
                exact kk_sub [1, 2, 0, 3] rfl (hJ_14 (v2_6 + (1 : Int32)) σ_16 h)
              · replace h := h.2 c_17
                refine kk_goto e_X11_kinds_82 ?_
                exact kk_sub [0, 1, 2, 3] rfl (hJ_14 v2_6 σ_11 h)
      · replace h := h.2 c_21
        refine kk_aload_n 0 rfl e_X11_kinds_34 ?_
        refine kk_getr e_X11_kinds_35 fl_X11_80 rfl rfl ?_
        refine kk_iload_n 2 rfl e_X11_kinds_38 ?_
        refine kk_iconst ic_0 e_X11_kinds_39 ?_
        refine kk_iast e_X11_kinds_40 rfl h.1 ?_
        replace h := h.2
        refine kk_tops (fun σ_20 eσ_20 => ?_)
        replace h := h σ_20 eσ_20
        refine kk_iinc (lv' := [(2, .int (v2_2 + (1 : Int32))), (0, .ref (Z.2.1 0)), (1, .int v1)]) e_X11_kinds_41 (j := 2) rfl (ii_1 v2_2) (by decide) rfl ?_
        refine kk_goto e_X11_kinds_44 ?_
        exact kk_sub [1, 2, 0] rfl (hrec_4 (v2_2 + (1 : Int32)) σ_20 h)
    · replace h := h.2 c_22
      refine kk_bipush bp_m2 e_X11_kinds_20 ?_
      exact kk_iret e_X11_kinds_22 h
  · replace h := h.2 c_23
    refine kk_iconst ic_m1 e_X11_kinds_9 ?_
    exact kk_iret e_X11_kinds_10 h
theorem e_X11_partsAhead_0 : kk_d cX11_partsAhead 0 (.iconst 0) 1 1 := ⟨by decide +kernel, rfl⟩
theorem e_X11_partsAhead_1 : kk_d cX11_partsAhead 1 (.istore_n 2) 1 2 := ⟨by decide +kernel, rfl⟩
theorem e_X11_partsAhead_2 : kk_d cX11_partsAhead 2 (.iconst 0) 1 3 := ⟨by decide +kernel, rfl⟩
theorem e_X11_partsAhead_3 : kk_d cX11_partsAhead 3 (.istore_n 3) 1 4 := ⟨by decide +kernel, rfl⟩
theorem e_X11_partsAhead_4 : kk_d cX11_partsAhead 4 (.iload_n 3) 1 5 := ⟨by decide +kernel, rfl⟩
theorem e_X11_partsAhead_5 : kk_d cX11_partsAhead 5 (.iload_n 1) 1 6 := ⟨by decide +kernel, rfl⟩
theorem e_X11_partsAhead_6 : kk_dj cX11_partsAhead 6 (.if_icmp .ge 30) 3 (30) 9 36 := ⟨by decide +kernel, rfl, by decide⟩
theorem e_X11_partsAhead_36 : kk_d cX11_partsAhead 36 (.iload_n 2) 1 37 := ⟨by decide +kernel, rfl⟩
theorem e_X11_partsAhead_37 : kk_d cX11_partsAhead 37 .ireturn 1 38 := ⟨by decide +kernel, rfl⟩
theorem e_X11_partsAhead_9 : kk_d cX11_partsAhead 9 (.aload_n 0) 1 10 := ⟨by decide +kernel, rfl⟩
theorem e_X11_partsAhead_10 : kk_d cX11_partsAhead 10 (.getfield 70) 3 13 := ⟨by decide +kernel, rfl⟩
theorem e_X11_partsAhead_13 : kk_d cX11_partsAhead 13 (.iload_n 3) 1 14 := ⟨by decide +kernel, rfl⟩
theorem e_X11_partsAhead_14 : kk_d cX11_partsAhead 14 .iaload 1 15 := ⟨by decide +kernel, rfl⟩
theorem e_X11_partsAhead_15 : kk_d cX11_partsAhead 15 (.iconst 1) 1 16 := ⟨by decide +kernel, rfl⟩
theorem e_X11_partsAhead_16 : kk_d cX11_partsAhead 16 .iadd 1 17 := ⟨by decide +kernel, rfl⟩
theorem e_X11_partsAhead_17 : kk_d cX11_partsAhead 17 (.iload_n 2) 1 18 := ⟨by decide +kernel, rfl⟩
theorem e_X11_partsAhead_18 : kk_dj cX11_partsAhead 18 (.if_icmp .le 12) 3 (12) 21 30 := ⟨by decide +kernel, rfl, by decide⟩
theorem e_X11_partsAhead_30 : kk_d cX11_partsAhead 30 (.iinc 3 1) 3 33 := ⟨by decide +kernel, rfl⟩
theorem e_X11_partsAhead_33 : kk_dj cX11_partsAhead 33 (.goto (-29)) 3 (-29) 36 4 := ⟨by decide +kernel, rfl, by decide⟩
theorem e_X11_partsAhead_21 : kk_d cX11_partsAhead 21 (.aload_n 0) 1 22 := ⟨by decide +kernel, rfl⟩
theorem e_X11_partsAhead_22 : kk_d cX11_partsAhead 22 (.getfield 70) 3 25 := ⟨by decide +kernel, rfl⟩
theorem e_X11_partsAhead_25 : kk_d cX11_partsAhead 25 (.iload_n 3) 1 26 := ⟨by decide +kernel, rfl⟩
theorem e_X11_partsAhead_26 : kk_d cX11_partsAhead 26 .iaload 1 27 := ⟨by decide +kernel, rfl⟩
theorem e_X11_partsAhead_27 : kk_d cX11_partsAhead 27 (.iconst 1) 1 28 := ⟨by decide +kernel, rfl⟩
theorem e_X11_partsAhead_28 : kk_d cX11_partsAhead 28 .iadd 1 29 := ⟨by decide +kernel, rfl⟩
theorem e_X11_partsAhead_29 : kk_d cX11_partsAhead 29 (.istore_n 2) 1 30 := ⟨by decide +kernel, rfl⟩
set_option maxRecDepth 4000 in
theorem s_X11_partsAhead (Z : kk_Z) (v1 : Int32) (σ : kk_St) (Q : Int32 → Prop) (h : f_X11_partsAhead v1 σ Q) : kk_M Z sh_M yX11_partsAhead cX11_partsAhead 4 (some .int) (kk_R 2) [.ref (Z.2.1 0), .int v1] σ (kk_Qi Z sh_M (fun r σ' => σ' = σ ∧ Q r)) := by
  unfold f_X11_partsAhead at h
  refine kk_met (own := RX11) (by decide) rfl (Nat.le_of_ble_eq_true rfl) rfl ?_
  refine kk_iconst ic_0 e_X11_partsAhead_0 ?_
  refine kk_istore_n (lv' := [(2, .int (0 : Int32)), (0, .ref (Z.2.1 0)), (1, .int v1)]) e_X11_partsAhead_1 rfl (by decide) rfl ?_
  refine kk_iconst ic_0 e_X11_partsAhead_2 ?_
  refine kk_istore_n (lv' := [(3, .int (0 : Int32)), (2, .int (0 : Int32)), (0, .ref (Z.2.1 0)), (1, .int v1)]) e_X11_partsAhead_3 rfl (by decide) rfl ?_
  refine kk_sub [2, 3, 1, 0] rfl ?_
  refine kk_lpW2 (P := fun (v2_1 : Int32) (v3_2 : Int32) => KK Z sh_M RX11 cX11_partsAhead 4 (some .int) (kk_R 2) (kk_Qi Z sh_M (fun r σ' => σ' = σ ∧ Q r)) 4 [(0, .ref (Z.2.1 0)), (1, .int v1), (2, .int v2_1), (3, .int v3_2)] [] σ) ?_ h
  intro rec_3 hrec_3 v2_1 v3_2 h
  refine kk_iload_n 3 rfl e_X11_partsAhead_4 ?_
  refine kk_iload_n 1 rfl e_X11_partsAhead_5 ?_
  refine kk_icmp_ge e_X11_partsAhead_6 (fun c_8 => ?_) (fun c_8 => ?_)
  · replace h := h.1 c_8
    refine kk_iload_n 2 rfl e_X11_partsAhead_36 ?_
    exact kk_iret e_X11_partsAhead_37 ⟨rfl, h⟩
  · replace h := h.2 c_8
    refine kk_aload_n 0 rfl e_X11_partsAhead_9 ?_
    refine kk_getr e_X11_partsAhead_10 fl_X11_70 rfl rfl ?_
    refine kk_iload_n 3 rfl e_X11_partsAhead_13 ?_
    refine kk_iald e_X11_partsAhead_14 rfl h.1 ?_
    replace h := h.2
    refine kk_iconst ic_1 e_X11_partsAhead_15 ?_
    refine kk_iadd e_X11_partsAhead_16 ?_
    refine kk_iload_n 2 rfl e_X11_partsAhead_17 ?_
    refine kk_jW1 (P := fun (v2_4 : Int32) => KK Z sh_M RX11 cX11_partsAhead 4 (some .int) (kk_R 2) (kk_Qi Z sh_M (fun r σ' => σ' = σ ∧ Q r)) 30 [(0, .ref (Z.2.1 0)), (1, .int v1), (2, .int v2_4), (3, .int v3_2)] [] σ) h ?_ ?_
    · intro v2_4 h
      refine kk_iinc (lv' := [(3, .int (v3_2 + (1 : Int32))), (0, .ref (Z.2.1 0)), (1, .int v1), (2, .int v2_4)]) e_X11_partsAhead_30 (j := 3) rfl (ii_1 v3_2) (by decide) rfl ?_
      refine kk_goto e_X11_partsAhead_33 ?_
      exact kk_sub [1, 2, 3, 0] rfl (hrec_3 v2_4 (v3_2 + (1 : Int32)) h)
    · intro J_5 hJ_5 h
      refine kk_icmp_le e_X11_partsAhead_18 (fun c_7 => ?_) (fun c_7 => ?_)
      · replace h := h.1 c_7
        exact kk_sub [0, 1, 2, 3] rfl (hJ_5 v2_1 h)
      · replace h := h.2 c_7
        refine kk_aload_n 0 rfl e_X11_partsAhead_21 ?_
        refine kk_getr e_X11_partsAhead_22 fl_X11_70 rfl rfl ?_
        refine kk_iload_n 3 rfl e_X11_partsAhead_25 ?_
        refine kk_iald e_X11_partsAhead_26 rfl h.1 ?_
        replace h := h.2
        refine kk_iconst ic_1 e_X11_partsAhead_27 ?_
        refine kk_iadd e_X11_partsAhead_28 ?_
        refine kk_topi (fun v2_6 ev2_6 => ?_)
        replace h := h v2_6 ev2_6
        refine kk_istore_n (lv' := [(2, .int v2_6), (0, .ref (Z.2.1 0)), (1, .int v1), (3, .int v3_2)]) e_X11_partsAhead_29 rfl (by decide) rfl ?_
        exact kk_sub [1, 2, 0, 3] rfl (hJ_5 v2_6 h)
theorem e_X11_laysParted_0 : kk_d cX11_laysParted 0 (.iconst 0) 1 1 := ⟨by decide +kernel, rfl⟩
theorem e_X11_laysParted_1 : kk_d cX11_laysParted 1 (.istore_n 1) 1 2 := ⟨by decide +kernel, rfl⟩
theorem e_X11_laysParted_2 : kk_d cX11_laysParted 2 (.iload_n 1) 1 3 := ⟨by decide +kernel, rfl⟩
theorem e_X11_laysParted_3 : kk_d cX11_laysParted 3 (.bipush 10) 2 5 := ⟨by decide +kernel, rfl⟩
theorem e_X11_laysParted_5 : kk_dj cX11_laysParted 5 (.if_icmp .ge 16) 3 (16) 8 21 := ⟨by decide +kernel, rfl, by decide⟩
theorem e_X11_laysParted_21 : kk_d cX11_laysParted 21 (.iconst 0) 1 22 := ⟨by decide +kernel, rfl⟩
theorem e_X11_laysParted_22 : kk_d cX11_laysParted 22 (.istore_n 1) 1 23 := ⟨by decide +kernel, rfl⟩
theorem e_X11_laysParted_23 : kk_d cX11_laysParted 23 (.aload_n 0) 1 24 := ⟨by decide +kernel, rfl⟩
theorem e_X11_laysParted_24 : kk_d cX11_laysParted 24 (.getfield 70) 3 27 := ⟨by decide +kernel, rfl⟩
theorem e_X11_laysParted_27 : kk_d cX11_laysParted 27 (.iconst 0) 1 28 := ⟨by decide +kernel, rfl⟩
theorem e_X11_laysParted_28 : kk_d cX11_laysParted 28 (.iconst (-1)) 1 29 := ⟨by decide +kernel, rfl⟩
theorem e_X11_laysParted_29 : kk_d cX11_laysParted 29 .iastore 1 30 := ⟨by decide +kernel, rfl⟩
theorem e_X11_laysParted_30 : kk_d cX11_laysParted 30 (.iload_n 1) 1 31 := ⟨by decide +kernel, rfl⟩
theorem e_X11_laysParted_31 : kk_dj cX11_laysParted 31 (.ifCond .lt 82) 3 (82) 34 113 := ⟨by decide +kernel, rfl, by decide⟩
theorem e_X11_laysParted_113 : kk_d cX11_laysParted 113 .return_ 1 114 := ⟨by decide +kernel, rfl⟩
theorem e_X11_laysParted_34 : kk_d cX11_laysParted 34 (.iload_n 1) 1 35 := ⟨by decide +kernel, rfl⟩
theorem e_X11_laysParted_35 : kk_d cX11_laysParted 35 (.aload_n 0) 1 36 := ⟨by decide +kernel, rfl⟩
theorem e_X11_laysParted_36 : kk_d cX11_laysParted 36 (.getfield 96) 3 39 := ⟨by decide +kernel, rfl⟩
theorem e_X11_laysParted_39 : kk_dj cX11_laysParted 39 (.if_icmp .ne 23) 3 (23) 42 62 := ⟨by decide +kernel, rfl, by decide⟩
theorem e_X11_laysParted_62 : kk_d cX11_laysParted 62 (.aload_n 0) 1 63 := ⟨by decide +kernel, rfl⟩
theorem e_X11_laysParted_63 : kk_d cX11_laysParted 63 (.getfield 70) 3 66 := ⟨by decide +kernel, rfl⟩
theorem e_X11_laysParted_66 : kk_d cX11_laysParted 66 (.iload_n 1) 1 67 := ⟨by decide +kernel, rfl⟩
theorem e_X11_laysParted_67 : kk_d cX11_laysParted 67 .dup2 1 68 := ⟨by decide +kernel, rfl⟩
theorem e_X11_laysParted_68 : kk_d cX11_laysParted 68 .iaload 1 69 := ⟨by decide +kernel, rfl⟩
theorem e_X11_laysParted_69 : kk_d cX11_laysParted 69 (.iconst 1) 1 70 := ⟨by decide +kernel, rfl⟩
theorem e_X11_laysParted_70 : kk_d cX11_laysParted 70 .iadd 1 71 := ⟨by decide +kernel, rfl⟩
theorem e_X11_laysParted_71 : kk_d cX11_laysParted 71 .iastore 1 72 := ⟨by decide +kernel, rfl⟩
theorem e_X11_laysParted_72 : kk_d cX11_laysParted 72 (.aload_n 0) 1 73 := ⟨by decide +kernel, rfl⟩
theorem e_X11_laysParted_73 : kk_d cX11_laysParted 73 (.getfield 70) 3 76 := ⟨by decide +kernel, rfl⟩
theorem e_X11_laysParted_76 : kk_d cX11_laysParted 76 (.iload_n 1) 1 77 := ⟨by decide +kernel, rfl⟩
theorem e_X11_laysParted_77 : kk_d cX11_laysParted 77 .iaload 1 78 := ⟨by decide +kernel, rfl⟩
theorem e_X11_laysParted_78 : kk_d cX11_laysParted 78 (.aload_n 0) 1 79 := ⟨by decide +kernel, rfl⟩
theorem e_X11_laysParted_79 : kk_d cX11_laysParted 79 (.iload_n 1) 1 80 := ⟨by decide +kernel, rfl⟩
theorem e_X11_laysParted_80 : kk_d cX11_laysParted 80 (.invokevirtual 262) 3 83 := ⟨by decide +kernel, rfl⟩
theorem e_X11_laysParted_83 : kk_dj cX11_laysParted 83 (.if_icmp .le 9) 3 (9) 86 92 := ⟨by decide +kernel, rfl, by decide⟩
theorem e_X11_laysParted_92 : kk_d cX11_laysParted 92 (.aload_n 0) 1 93 := ⟨by decide +kernel, rfl⟩
theorem e_X11_laysParted_93 : kk_d cX11_laysParted 93 (.iload_n 1) 1 94 := ⟨by decide +kernel, rfl⟩
theorem e_X11_laysParted_94 : kk_d cX11_laysParted 94 (.invokevirtual 265) 3 97 := ⟨by decide +kernel, rfl⟩
theorem e_X11_laysParted_97 : kk_dj cX11_laysParted 97 (.ifCond .eq (-67)) 3 (-67) 100 30 := ⟨by decide +kernel, rfl, by decide⟩
theorem e_X11_laysParted_100 : kk_d cX11_laysParted 100 (.iinc 1 1) 3 103 := ⟨by decide +kernel, rfl⟩
theorem e_X11_laysParted_103 : kk_d cX11_laysParted 103 (.aload_n 0) 1 104 := ⟨by decide +kernel, rfl⟩
theorem e_X11_laysParted_104 : kk_d cX11_laysParted 104 (.getfield 70) 3 107 := ⟨by decide +kernel, rfl⟩
theorem e_X11_laysParted_107 : kk_d cX11_laysParted 107 (.iload_n 1) 1 108 := ⟨by decide +kernel, rfl⟩
theorem e_X11_laysParted_108 : kk_d cX11_laysParted 108 (.iconst (-1)) 1 109 := ⟨by decide +kernel, rfl⟩
theorem e_X11_laysParted_109 : kk_d cX11_laysParted 109 .iastore 1 110 := ⟨by decide +kernel, rfl⟩
theorem e_X11_laysParted_110 : kk_dj cX11_laysParted 110 (.goto (-80)) 3 (-80) 113 30 := ⟨by decide +kernel, rfl, by decide⟩
theorem e_X11_laysParted_86 : kk_d cX11_laysParted 86 (.iinc 1 (-1)) 3 89 := ⟨by decide +kernel, rfl⟩
theorem e_X11_laysParted_89 : kk_dj cX11_laysParted 89 (.goto (-59)) 3 (-59) 92 30 := ⟨by decide +kernel, rfl, by decide⟩
theorem e_X11_laysParted_42 : kk_d cX11_laysParted 42 (.aload_n 0) 1 43 := ⟨by decide +kernel, rfl⟩
theorem e_X11_laysParted_43 : kk_d cX11_laysParted 43 (.getfield 73) 3 46 := ⟨by decide +kernel, rfl⟩
theorem e_X11_laysParted_46 : kk_d cX11_laysParted 46 (.aload_n 0) 1 47 := ⟨by decide +kernel, rfl⟩
theorem e_X11_laysParted_47 : kk_d cX11_laysParted 47 (.iload_n 1) 1 48 := ⟨by decide +kernel, rfl⟩
theorem e_X11_laysParted_48 : kk_d cX11_laysParted 48 (.invokevirtual 262) 3 51 := ⟨by decide +kernel, rfl⟩
theorem e_X11_laysParted_51 : kk_d cX11_laysParted 51 .dup2 1 52 := ⟨by decide +kernel, rfl⟩
theorem e_X11_laysParted_52 : kk_d cX11_laysParted 52 .laload 1 53 := ⟨by decide +kernel, rfl⟩
theorem e_X11_laysParted_53 : kk_d cX11_laysParted 53 (.lconst 1) 1 54 := ⟨by decide +kernel, rfl⟩
theorem e_X11_laysParted_54 : kk_d cX11_laysParted 54 .ladd 1 55 := ⟨by decide +kernel, rfl⟩
theorem e_X11_laysParted_55 : kk_d cX11_laysParted 55 .lastore 1 56 := ⟨by decide +kernel, rfl⟩
theorem e_X11_laysParted_56 : kk_d cX11_laysParted 56 (.iinc 1 (-1)) 3 59 := ⟨by decide +kernel, rfl⟩
theorem e_X11_laysParted_59 : kk_dj cX11_laysParted 59 (.goto (-29)) 3 (-29) 62 30 := ⟨by decide +kernel, rfl, by decide⟩
theorem e_X11_laysParted_8 : kk_d cX11_laysParted 8 (.aload_n 0) 1 9 := ⟨by decide +kernel, rfl⟩
theorem e_X11_laysParted_9 : kk_d cX11_laysParted 9 (.getfield 73) 3 12 := ⟨by decide +kernel, rfl⟩
theorem e_X11_laysParted_12 : kk_d cX11_laysParted 12 (.iload_n 1) 1 13 := ⟨by decide +kernel, rfl⟩
theorem e_X11_laysParted_13 : kk_d cX11_laysParted 13 (.lconst 0) 1 14 := ⟨by decide +kernel, rfl⟩
theorem e_X11_laysParted_14 : kk_d cX11_laysParted 14 .lastore 1 15 := ⟨by decide +kernel, rfl⟩
theorem e_X11_laysParted_15 : kk_d cX11_laysParted 15 (.iinc 1 1) 3 18 := ⟨by decide +kernel, rfl⟩
theorem e_X11_laysParted_18 : kk_dj cX11_laysParted 18 (.goto (-16)) 3 (-16) 21 2 := ⟨by decide +kernel, rfl, by decide⟩
set_option maxRecDepth 4000 in
theorem s_X11_laysParted (Z : kk_Z) (σ : kk_St) (Q : kk_St → Prop) (h : f_X11_laysParted σ Q) : kk_M Z sh_M yX11_laysParted cX11_laysParted 2 none (kk_R 5) [.ref (Z.2.1 0)] σ (kk_Qv Z sh_M Q) := by
  unfold f_X11_laysParted at h
  refine kk_met (own := RX11) (by decide) rfl (Nat.le_of_ble_eq_true rfl) rfl ?_
  refine kk_iconst ic_0 e_X11_laysParted_0 ?_
  refine kk_istore_n (lv' := [(1, .int (0 : Int32)), (0, .ref (Z.2.1 0))]) e_X11_laysParted_1 rfl (by decide) rfl ?_
  refine kk_sub [1, 0] rfl ?_
  refine kk_lpW2 (P := fun (v1_1 : Int32) (σ_2 : kk_St) => KK Z sh_M RX11 cX11_laysParted 2 none (kk_R 5) (kk_Qv Z sh_M Q) 2 [(0, .ref (Z.2.1 0)), (1, .int v1_1)] [] σ_2) ?_ h
  intro rec_3 hrec_3 v1_1 σ_2 h
  refine kk_iload_n 1 rfl e_X11_laysParted_2 ?_
  refine kk_bipush bp_10 e_X11_laysParted_3 ?_
  refine kk_icmp_ge e_X11_laysParted_5 (fun c_19 => ?_) (fun c_19 => ?_)
  · replace h := h.1 c_19
    refine kk_iconst ic_0 e_X11_laysParted_21 ?_
    refine kk_istore_n (lv' := [(1, .int (0 : Int32)), (0, .ref (Z.2.1 0))]) e_X11_laysParted_22 rfl (by decide) rfl ?_
    refine kk_aload_n 1 rfl e_X11_laysParted_23 ?_
    refine kk_getr e_X11_laysParted_24 fl_X11_70 rfl rfl ?_
    refine kk_iconst ic_0 e_X11_laysParted_27 ?_
    refine kk_iconst ic_m1 e_X11_laysParted_28 ?_
    refine kk_iast e_X11_laysParted_29 rfl h.1 ?_
    replace h := h.2
    refine kk_tops (fun σ_4 eσ_4 => ?_)
    replace h := h σ_4 eσ_4
    refine kk_sub [1, 0] rfl ?_
    refine kk_lpW2 (P := fun (v1_5 : Int32) (σ_6 : kk_St) => KK Z sh_M RX11 cX11_laysParted 2 none (kk_R 5) (kk_Qv Z sh_M Q) 30 [(0, .ref (Z.2.1 0)), (1, .int v1_5)] [] σ_6) ?_ h
    intro rec_7 hrec_7 v1_5 σ_6 h
    refine kk_iload_n 1 rfl e_X11_laysParted_30 ?_
    refine kk_if_lt e_X11_laysParted_31 (fun c_17 => ?_) (fun c_17 => ?_)
    · replace h := h.1 c_17
      exact kk_vret e_X11_laysParted_113 h
    · replace h := h.2 c_17
      refine kk_iload_n 1 rfl e_X11_laysParted_34 ?_
      refine kk_aload_n 0 rfl e_X11_laysParted_35 ?_
      refine kk_geti e_X11_laysParted_36 fl_X11_96 rfl rfl ?_
      refine kk_icmp_ne e_X11_laysParted_39 (fun c_16 => ?_) (fun c_16 => ?_)
      · replace h := h.1 c_16
        refine kk_aload_n 0 rfl e_X11_laysParted_62 ?_
        refine kk_getr e_X11_laysParted_63 fl_X11_70 rfl rfl ?_
        refine kk_iload_n 1 rfl e_X11_laysParted_66 ?_
        refine kk_dup2 rfl rfl e_X11_laysParted_67 ?_
        refine kk_iald e_X11_laysParted_68 rfl h.1 ?_
        replace h := h.2
        refine kk_iconst ic_1 e_X11_laysParted_69 ?_
        refine kk_iadd e_X11_laysParted_70 ?_
        refine kk_iast e_X11_laysParted_71 rfl h.1 ?_
        replace h := h.2
        refine kk_tops (fun σ_8 eσ_8 => ?_)
        replace h := h σ_8 eσ_8
        refine kk_aload_n 0 rfl e_X11_laysParted_72 ?_
        refine kk_getr e_X11_laysParted_73 fl_X11_70 rfl rfl ?_
        refine kk_iload_n 1 rfl e_X11_laysParted_76 ?_
        refine kk_iald e_X11_laysParted_77 rfl h.1 ?_
        replace h := h.2
        refine kk_aload_n 0 rfl e_X11_laysParted_78 ?_
        refine kk_iload_n 1 rfl e_X11_laysParted_79 ?_
        refine kk_callVip (As := [.int v1_5]) (rest := [.int (kk_rd σ_8 16 v1_5)]) e_X11_laysParted_80 ml_X11_262 ⟨_, _, _, _, rfl, rfl⟩ rfl (kk_fitR (by decide) (by decide)) (Nat.le_of_ble_eq_true rfl) rfl (s_X11_partsAhead Z v1_5 σ_8 _ h) (fun r_9 h => ?_)
        refine kk_icmp_le e_X11_laysParted_83 (fun c_13 => ?_) (fun c_13 => ?_)
        · replace h := h.1 c_13
          refine kk_aload_n 0 rfl e_X11_laysParted_92 ?_
          refine kk_iload_n 1 rfl e_X11_laysParted_93 ?_
          refine kk_callVip (As := [.int v1_5]) (rest := []) e_X11_laysParted_94 ml_X11_265 ⟨_, _, _, _, rfl, rfl⟩ rfl (kk_fitR (by decide) (by decide)) (Nat.le_of_ble_eq_true rfl) rfl (s_X11_canBePart Z v1_5 σ_8 _ h) (fun r_10 h => ?_)
          refine kk_if_eq e_X11_laysParted_97 (fun c_12 => ?_) (fun c_12 => ?_)
          · replace h := h.1 c_12
            exact kk_sub [0, 1] rfl (hrec_7 v1_5 σ_8 h)
          · replace h := h.2 c_12
            refine kk_iinc (lv' := [(1, .int (v1_5 + (1 : Int32))), (0, .ref (Z.2.1 0))]) e_X11_laysParted_100 (j := 1) rfl (ii_1 v1_5) (by decide) rfl ?_
            refine kk_aload_n 1 rfl e_X11_laysParted_103 ?_
            refine kk_getr e_X11_laysParted_104 fl_X11_70 rfl rfl ?_
            refine kk_iload_n 0 rfl e_X11_laysParted_107 ?_
            refine kk_iconst ic_m1 e_X11_laysParted_108 ?_
            refine kk_iast e_X11_laysParted_109 rfl h.1 ?_
            replace h := h.2
            refine kk_tops (fun σ_11 eσ_11 => ?_)
            replace h := h σ_11 eσ_11
            refine kk_goto e_X11_laysParted_110 ?_
            exact kk_sub [1, 0] rfl (hrec_7 (v1_5 + (1 : Int32)) σ_11 h)
        · replace h := h.2 c_13
          refine kk_iinc (lv' := [(1, .int (v1_5 + (-1 : Int32))), (0, .ref (Z.2.1 0))]) e_X11_laysParted_86 (j := 1) rfl (ii_m1 v1_5) (by decide) rfl ?_
          refine kk_goto e_X11_laysParted_89 ?_
          exact kk_sub [1, 0] rfl (hrec_7 (v1_5 + (-1 : Int32)) σ_8 h)
      · replace h := h.2 c_16
        refine kk_aload_n 0 rfl e_X11_laysParted_42 ?_
        refine kk_getr e_X11_laysParted_43 fl_X11_73 rfl rfl ?_
        refine kk_aload_n 0 rfl e_X11_laysParted_46 ?_
        refine kk_iload_n 1 rfl e_X11_laysParted_47 ?_
        refine kk_callVip (As := [.int v1_5]) (rest := [.ref (Z.2.1 17)]) e_X11_laysParted_48 ml_X11_262 ⟨_, _, _, _, rfl, rfl⟩ rfl (kk_fitR (by decide) (by decide)) (Nat.le_of_ble_eq_true rfl) rfl (s_X11_partsAhead Z v1_5 σ_6 _ h) (fun r_14 h => ?_)
        refine kk_dup2 rfl rfl e_X11_laysParted_51 ?_
        refine kk_lald e_X11_laysParted_52 rfl h.1 ?_
        replace h := h.2
        refine kk_lconst lc_1 e_X11_laysParted_53 ?_
        refine kk_ladd e_X11_laysParted_54 ?_
        refine kk_last e_X11_laysParted_55 rfl shM_long h.1 ?_
        replace h := h.2
        refine kk_tops (fun σ_15 eσ_15 => ?_)
        replace h := h σ_15 eσ_15
        refine kk_iinc (lv' := [(1, .int (v1_5 + (-1 : Int32))), (0, .ref (Z.2.1 0))]) e_X11_laysParted_56 (j := 1) rfl (ii_m1 v1_5) (by decide) rfl ?_
        refine kk_goto e_X11_laysParted_59 ?_
        exact kk_sub [1, 0] rfl (hrec_7 (v1_5 + (-1 : Int32)) σ_15 h)
  · replace h := h.2 c_19
    refine kk_aload_n 0 rfl e_X11_laysParted_8 ?_
    refine kk_getr e_X11_laysParted_9 fl_X11_73 rfl rfl ?_
    refine kk_iload_n 1 rfl e_X11_laysParted_12 ?_
    refine kk_lconst lc_0 e_X11_laysParted_13 ?_
    refine kk_last e_X11_laysParted_14 rfl shM_long h.1 ?_
    replace h := h.2
    refine kk_tops (fun σ_18 eσ_18 => ?_)
    replace h := h σ_18 eσ_18
    refine kk_iinc (lv' := [(1, .int (v1_1 + (1 : Int32))), (0, .ref (Z.2.1 0))]) e_X11_laysParted_15 (j := 1) rfl (ii_1 v1_1) (by decide) rfl ?_
    refine kk_goto e_X11_laysParted_18 ?_
    exact kk_sub [1, 0] rfl (hrec_3 (v1_1 + (1 : Int32)) σ_18 h)
