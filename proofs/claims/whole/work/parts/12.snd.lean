theorem e_X7_fixLeast_0 : kk_d cX7_fixLeast 0 (.iconst 0) 1 1 := ⟨by decide +kernel, rfl⟩
theorem e_X7_fixLeast_1 : kk_d cX7_fixLeast 1 (.istore_n 3) 1 2 := ⟨by decide +kernel, rfl⟩
theorem e_X7_fixLeast_2 : kk_d cX7_fixLeast 2 (.iload_n 3) 1 3 := ⟨by decide +kernel, rfl⟩
theorem e_X7_fixLeast_3 : kk_d cX7_fixLeast 3 (.aload_n 0) 1 4 := ⟨by decide +kernel, rfl⟩
theorem e_X7_fixLeast_4 : kk_d cX7_fixLeast 4 (.getfield 15) 3 7 := ⟨by decide +kernel, rfl⟩
theorem e_X7_fixLeast_7 : kk_d cX7_fixLeast 7 (.iload_n 1) 1 8 := ⟨by decide +kernel, rfl⟩
theorem e_X7_fixLeast_8 : kk_d cX7_fixLeast 8 .iaload 1 9 := ⟨by decide +kernel, rfl⟩
theorem e_X7_fixLeast_9 : kk_dj cX7_fixLeast 9 (.if_icmp .ge 34) 3 (34) 12 43 := ⟨by decide +kernel, rfl, by decide⟩
theorem e_X7_fixLeast_43 : kk_d cX7_fixLeast 43 .return_ 1 44 := ⟨by decide +kernel, rfl⟩
theorem e_X7_fixLeast_12 : kk_d cX7_fixLeast 12 (.aload_n 0) 1 13 := ⟨by decide +kernel, rfl⟩
theorem e_X7_fixLeast_13 : kk_d cX7_fixLeast 13 (.getfield 9) 3 16 := ⟨by decide +kernel, rfl⟩
theorem e_X7_fixLeast_16 : kk_d cX7_fixLeast 16 (.iload_n 3) 1 17 := ⟨by decide +kernel, rfl⟩
theorem e_X7_fixLeast_17 : kk_d cX7_fixLeast 17 .iaload 1 18 := ⟨by decide +kernel, rfl⟩
theorem e_X7_fixLeast_18 : kk_d cX7_fixLeast 18 (.iload_n 1) 1 19 := ⟨by decide +kernel, rfl⟩
theorem e_X7_fixLeast_19 : kk_d cX7_fixLeast 19 .ishr 1 20 := ⟨by decide +kernel, rfl⟩
theorem e_X7_fixLeast_20 : kk_d cX7_fixLeast 20 (.iconst 1) 1 21 := ⟨by decide +kernel, rfl⟩
theorem e_X7_fixLeast_21 : kk_d cX7_fixLeast 21 .iand 1 22 := ⟨by decide +kernel, rfl⟩
theorem e_X7_fixLeast_22 : kk_dj cX7_fixLeast 22 (.ifCond .eq 15) 3 (15) 25 37 := ⟨by decide +kernel, rfl, by decide⟩
theorem e_X7_fixLeast_37 : kk_d cX7_fixLeast 37 (.iinc 3 1) 3 40 := ⟨by decide +kernel, rfl⟩
theorem e_X7_fixLeast_40 : kk_dj cX7_fixLeast 40 (.goto (-38)) 3 (-38) 43 2 := ⟨by decide +kernel, rfl, by decide⟩
theorem e_X7_fixLeast_25 : kk_d cX7_fixLeast 25 (.aload_n 0) 1 26 := ⟨by decide +kernel, rfl⟩
theorem e_X7_fixLeast_26 : kk_d cX7_fixLeast 26 (.iload_n 1) 1 27 := ⟨by decide +kernel, rfl⟩
theorem e_X7_fixLeast_27 : kk_d cX7_fixLeast 27 (.iload_n 3) 1 28 := ⟨by decide +kernel, rfl⟩
theorem e_X7_fixLeast_28 : kk_d cX7_fixLeast 28 (.iload_n 2) 1 29 := ⟨by decide +kernel, rfl⟩
theorem e_X7_fixLeast_29 : kk_d cX7_fixLeast 29 (.iconst 0) 1 30 := ⟨by decide +kernel, rfl⟩
theorem e_X7_fixLeast_30 : kk_d cX7_fixLeast 30 (.invokevirtual 91) 3 33 := ⟨by decide +kernel, rfl⟩
theorem e_X7_fixLeast_33 : kk_dj cX7_fixLeast 33 (.ifCond .eq 4) 3 (4) 36 37 := ⟨by decide +kernel, rfl, by decide⟩
theorem e_X7_fixLeast_36 : kk_d cX7_fixLeast 36 .return_ 1 37 := ⟨by decide +kernel, rfl⟩
set_option maxRecDepth 4000 in
theorem s_X7_fixLeast (Z : kk_Z) (v1 : Int32) (v2 : Int32) (σ : kk_St) (Q : kk_St → Prop) (h : f_X7_fixLeast v1 v2 σ Q) : kk_M Z sh_C yX7_fixLeast cX7_fixLeast 4 none (kk_R 67) [.ref (Z.2.1 7), .int v1, .int v2] σ (kk_Qv Z sh_C Q) := by
  unfold f_X7_fixLeast at h
  refine kk_met (own := RX7) (by decide) rfl (Nat.le_of_ble_eq_true rfl) rfl ?_
  refine kk_iconst ic_0 e_X7_fixLeast_0 ?_
  refine kk_istore_n (lv' := [(3, .int (0 : Int32)), (0, .ref (Z.2.1 7)), (1, .int v1), (2, .int v2)]) e_X7_fixLeast_1 rfl (by decide) rfl ?_
  refine kk_sub [1, 2, 3, 0] rfl ?_
  refine kk_lpW2 (P := fun (v3_1 : Int32) (σ_2 : kk_St) => KK Z sh_C RX7 cX7_fixLeast 4 none (kk_R 67) (kk_Qv Z sh_C Q) 2 [(0, .ref (Z.2.1 7)), (1, .int v1), (2, .int v2), (3, .int v3_1)] [] σ_2) ?_ h
  intro rec_3 hrec_3 v3_1 σ_2 h
  refine kk_iload_n 3 rfl e_X7_fixLeast_2 ?_
  refine kk_aload_n 0 rfl e_X7_fixLeast_3 ?_
  refine kk_getr e_X7_fixLeast_4 fl_X7_15 rfl rfl ?_
  refine kk_iload_n 1 rfl e_X7_fixLeast_7 ?_
  refine kk_iald e_X7_fixLeast_8 rfl h.1 ?_
  replace h := h.2
  refine kk_icmp_ge e_X7_fixLeast_9 (fun c_10 => ?_) (fun c_10 => ?_)
  · replace h := h.1 c_10
    exact kk_vret e_X7_fixLeast_43 h
  · replace h := h.2 c_10
    refine kk_aload_n 0 rfl e_X7_fixLeast_12 ?_
    refine kk_getr e_X7_fixLeast_13 fl_X7_9 rfl rfl ?_
    refine kk_iload_n 3 rfl e_X7_fixLeast_16 ?_
    refine kk_iald e_X7_fixLeast_17 rfl h.1 ?_
    replace h := h.2
    refine kk_iload_n 1 rfl e_X7_fixLeast_18 ?_
    refine kk_ishr e_X7_fixLeast_19 ?_
    refine kk_iconst ic_1 e_X7_fixLeast_20 ?_
    refine kk_iand e_X7_fixLeast_21 ?_
    refine kk_jW1 (P := fun (σ_4 : kk_St) => KK Z sh_C RX7 cX7_fixLeast 4 none (kk_R 67) (kk_Qv Z sh_C Q) 37 [(0, .ref (Z.2.1 7)), (1, .int v1), (2, .int v2), (3, .int v3_1)] [] σ_4) h ?_ ?_
    · intro σ_4 h
      refine kk_iinc (lv' := [(3, .int (v3_1 + (1 : Int32))), (0, .ref (Z.2.1 7)), (1, .int v1), (2, .int v2)]) e_X7_fixLeast_37 (j := 3) rfl (ii_1 v3_1) (by decide) rfl ?_
      refine kk_goto e_X7_fixLeast_40 ?_
      exact kk_sub [1, 2, 3, 0] rfl (hrec_3 (v3_1 + (1 : Int32)) σ_4 h)
    · intro J_5 hJ_5 h
      refine kk_if_eq e_X7_fixLeast_22 (fun c_9 => ?_) (fun c_9 => ?_)
      · replace h := h.1 c_9
        exact kk_sub [0, 1, 2, 3] rfl (hJ_5 σ_2 h)
      · replace h := h.2 c_9
        refine kk_aload_n 0 rfl e_X7_fixLeast_25 ?_
        refine kk_iload_n 1 rfl e_X7_fixLeast_26 ?_
        refine kk_iload_n 3 rfl e_X7_fixLeast_27 ?_
        refine kk_iload_n 2 rfl e_X7_fixLeast_28 ?_
        refine kk_iconst ic_0 e_X7_fixLeast_29 ?_
        refine kk_callVi (As := [.int v1, .int v3_1, .int v2, .int (0 : Int32)]) (rest := []) e_X7_fixLeast_30 ml_X7_91 ⟨_, _, _, _, rfl, rfl⟩ rfl (kk_fitR (by decide) (by decide)) (Nat.le_of_ble_eq_true rfl) rfl (s_X7_completeWith Z (f_X7_complete 30) _ (s_X7_complete Z 30) v1 v3_1 v2 (0 : Int32) σ_2 _ h) (fun r_6 σ_7 h => ?_)
        refine kk_if_eq e_X7_fixLeast_33 (fun c_8 => ?_) (fun c_8 => ?_)
        · replace h := h.1 c_8
          exact kk_sub [0, 1, 2, 3] rfl (hJ_5 σ_7 h)
        · replace h := h.2 c_8
          exact kk_vret e_X7_fixLeast_36 h
theorem e_X7_findLeast_0 : kk_d cX7_findLeast 0 (.aload_n 0) 1 1 := ⟨by decide +kernel, rfl⟩
theorem e_X7_findLeast_1 : kk_d cX7_findLeast 1 (.getfield 35) 3 4 := ⟨by decide +kernel, rfl⟩
theorem e_X7_findLeast_4 : kk_d cX7_findLeast 4 (.invokevirtual 42) 3 7 := ⟨by decide +kernel, rfl⟩
theorem e_X7_findLeast_7 : kk_d cX7_findLeast 7 (.istore_n 1) 1 8 := ⟨by decide +kernel, rfl⟩
theorem e_X7_findLeast_8 : kk_d cX7_findLeast 8 (.aload_n 0) 1 9 := ⟨by decide +kernel, rfl⟩
theorem e_X7_findLeast_9 : kk_d cX7_findLeast 9 (.iload_n 1) 1 10 := ⟨by decide +kernel, rfl⟩
theorem e_X7_findLeast_10 : kk_d cX7_findLeast 10 (.iconst 0) 1 11 := ⟨by decide +kernel, rfl⟩
theorem e_X7_findLeast_11 : kk_d cX7_findLeast 11 (.invokevirtual 73) 3 14 := ⟨by decide +kernel, rfl⟩
theorem e_X7_findLeast_14 : kk_dj cX7_findLeast 14 (.ifCond .ne 5) 3 (5) 17 19 := ⟨by decide +kernel, rfl, by decide⟩
theorem e_X7_findLeast_19 : kk_d cX7_findLeast 19 (.iconst 0) 1 20 := ⟨by decide +kernel, rfl⟩
theorem e_X7_findLeast_20 : kk_d cX7_findLeast 20 (.istore_n 2) 1 21 := ⟨by decide +kernel, rfl⟩
theorem e_X7_findLeast_21 : kk_d cX7_findLeast 21 (.iload_n 2) 1 22 := ⟨by decide +kernel, rfl⟩
theorem e_X7_findLeast_22 : kk_d cX7_findLeast 22 (.aload_n 0) 1 23 := ⟨by decide +kernel, rfl⟩
theorem e_X7_findLeast_23 : kk_d cX7_findLeast 23 (.getfield 35) 3 26 := ⟨by decide +kernel, rfl⟩
theorem e_X7_findLeast_26 : kk_d cX7_findLeast 26 (.getfield 55) 3 29 := ⟨by decide +kernel, rfl⟩
theorem e_X7_findLeast_29 : kk_dj cX7_findLeast 29 (.if_icmp .ge 60) 3 (60) 32 89 := ⟨by decide +kernel, rfl, by decide⟩
theorem e_X7_findLeast_89 : kk_d cX7_findLeast 89 (.iconst 1) 1 90 := ⟨by decide +kernel, rfl⟩
theorem e_X7_findLeast_90 : kk_d cX7_findLeast 90 .ireturn 1 91 := ⟨by decide +kernel, rfl⟩
theorem e_X7_findLeast_32 : kk_d cX7_findLeast 32 (.iload_n 1) 1 33 := ⟨by decide +kernel, rfl⟩
theorem e_X7_findLeast_33 : kk_d cX7_findLeast 33 (.iconst 1) 1 34 := ⟨by decide +kernel, rfl⟩
theorem e_X7_findLeast_34 : kk_d cX7_findLeast 34 (.iload_n 2) 1 35 := ⟨by decide +kernel, rfl⟩
theorem e_X7_findLeast_35 : kk_d cX7_findLeast 35 .ishl 1 36 := ⟨by decide +kernel, rfl⟩
theorem e_X7_findLeast_36 : kk_d cX7_findLeast 36 (.iconst (-1)) 1 37 := ⟨by decide +kernel, rfl⟩
theorem e_X7_findLeast_37 : kk_d cX7_findLeast 37 .ixor 1 38 := ⟨by decide +kernel, rfl⟩
theorem e_X7_findLeast_38 : kk_d cX7_findLeast 38 .iand 1 39 := ⟨by decide +kernel, rfl⟩
theorem e_X7_findLeast_39 : kk_d cX7_findLeast 39 (.istore_n 1) 1 40 := ⟨by decide +kernel, rfl⟩
theorem e_X7_findLeast_40 : kk_d cX7_findLeast 40 (.aload_n 0) 1 41 := ⟨by decide +kernel, rfl⟩
theorem e_X7_findLeast_41 : kk_d cX7_findLeast 41 (.iload_n 2) 1 42 := ⟨by decide +kernel, rfl⟩
theorem e_X7_findLeast_42 : kk_d cX7_findLeast 42 (.iload_n 1) 1 43 := ⟨by decide +kernel, rfl⟩
theorem e_X7_findLeast_43 : kk_d cX7_findLeast 43 (.invokevirtual 84) 3 46 := ⟨by decide +kernel, rfl⟩
theorem e_X7_findLeast_46 : kk_d cX7_findLeast 46 (.aload_n 0) 1 47 := ⟨by decide +kernel, rfl⟩
theorem e_X7_findLeast_47 : kk_d cX7_findLeast 47 (.getfield 18) 3 50 := ⟨by decide +kernel, rfl⟩
theorem e_X7_findLeast_50 : kk_d cX7_findLeast 50 (.iload_n 2) 1 51 := ⟨by decide +kernel, rfl⟩
theorem e_X7_findLeast_51 : kk_d cX7_findLeast 51 (.aload_n 0) 1 52 := ⟨by decide +kernel, rfl⟩
theorem e_X7_findLeast_52 : kk_d cX7_findLeast 52 (.getfield 15) 3 55 := ⟨by decide +kernel, rfl⟩
theorem e_X7_findLeast_55 : kk_d cX7_findLeast 55 (.iload_n 2) 1 56 := ⟨by decide +kernel, rfl⟩
theorem e_X7_findLeast_56 : kk_d cX7_findLeast 56 .iaload 1 57 := ⟨by decide +kernel, rfl⟩
theorem e_X7_findLeast_57 : kk_d cX7_findLeast 57 .iastore 1 58 := ⟨by decide +kernel, rfl⟩
theorem e_X7_findLeast_58 : kk_d cX7_findLeast 58 (.aload_n 0) 1 59 := ⟨by decide +kernel, rfl⟩
theorem e_X7_findLeast_59 : kk_d cX7_findLeast 59 (.getfield 9) 3 62 := ⟨by decide +kernel, rfl⟩
theorem e_X7_findLeast_62 : kk_d cX7_findLeast 62 (.aload_n 0) 1 63 := ⟨by decide +kernel, rfl⟩
theorem e_X7_findLeast_63 : kk_d cX7_findLeast 63 (.getfield 15) 3 66 := ⟨by decide +kernel, rfl⟩
theorem e_X7_findLeast_66 : kk_d cX7_findLeast 66 (.iload_n 2) 1 67 := ⟨by decide +kernel, rfl⟩
theorem e_X7_findLeast_67 : kk_d cX7_findLeast 67 .iaload 1 68 := ⟨by decide +kernel, rfl⟩
theorem e_X7_findLeast_68 : kk_d cX7_findLeast 68 .dup2 1 69 := ⟨by decide +kernel, rfl⟩
theorem e_X7_findLeast_69 : kk_d cX7_findLeast 69 .iaload 1 70 := ⟨by decide +kernel, rfl⟩
theorem e_X7_findLeast_70 : kk_d cX7_findLeast 70 (.aload_n 0) 1 71 := ⟨by decide +kernel, rfl⟩
theorem e_X7_findLeast_71 : kk_d cX7_findLeast 71 (.getfield 35) 3 74 := ⟨by decide +kernel, rfl⟩
theorem e_X7_findLeast_74 : kk_d cX7_findLeast 74 (.getfield 88) 3 77 := ⟨by decide +kernel, rfl⟩
theorem e_X7_findLeast_77 : kk_d cX7_findLeast 77 (.iload_n 2) 1 78 := ⟨by decide +kernel, rfl⟩
theorem e_X7_findLeast_78 : kk_d cX7_findLeast 78 .iaload 1 79 := ⟨by decide +kernel, rfl⟩
theorem e_X7_findLeast_79 : kk_d cX7_findLeast 79 (.iconst (-1)) 1 80 := ⟨by decide +kernel, rfl⟩
theorem e_X7_findLeast_80 : kk_d cX7_findLeast 80 .ixor 1 81 := ⟨by decide +kernel, rfl⟩
theorem e_X7_findLeast_81 : kk_d cX7_findLeast 81 .iand 1 82 := ⟨by decide +kernel, rfl⟩
theorem e_X7_findLeast_82 : kk_d cX7_findLeast 82 .iastore 1 83 := ⟨by decide +kernel, rfl⟩
theorem e_X7_findLeast_83 : kk_d cX7_findLeast 83 (.iinc 2 1) 3 86 := ⟨by decide +kernel, rfl⟩
theorem e_X7_findLeast_86 : kk_dj cX7_findLeast 86 (.goto (-65)) 3 (-65) 89 21 := ⟨by decide +kernel, rfl, by decide⟩
theorem e_X7_findLeast_17 : kk_d cX7_findLeast 17 (.iconst 0) 1 18 := ⟨by decide +kernel, rfl⟩
theorem e_X7_findLeast_18 : kk_d cX7_findLeast 18 .ireturn 1 19 := ⟨by decide +kernel, rfl⟩
set_option maxRecDepth 4000 in
theorem s_X7_findLeast (Z : kk_Z) (σ : kk_St) (Q : Int32 → kk_St → Prop) (h : f_X7_findLeast σ Q) : kk_M Z sh_C yX7_findLeast cX7_findLeast 3 (some .boolean) (kk_R 68) [.ref (Z.2.1 7)] σ (kk_Qi Z sh_C Q) := by
  unfold f_X7_findLeast at h
  refine kk_met (own := RX7) (by decide) rfl (Nat.le_of_ble_eq_true rfl) rfl ?_
  refine kk_aload_n 0 rfl e_X7_findLeast_0 ?_
  refine kk_getr e_X7_findLeast_1 fl_X7_35 rfl rfl ?_
  refine kk_callVip (As := []) (rest := []) e_X7_findLeast_4 ml_X7_42 ⟨_, _, _, _, rfl, rfl⟩ rfl (kk_fitR (by decide) (by decide)) (Nat.le_of_ble_eq_true rfl) rfl (s_X6_allLines Z σ _ h) (fun r_1 h => ?_)
  refine kk_istore_n (lv' := [(1, .int r_1), (0, .ref (Z.2.1 7))]) e_X7_findLeast_7 rfl (by decide) rfl ?_
  refine kk_aload_n 1 rfl e_X7_findLeast_8 ?_
  refine kk_iload_n 0 rfl e_X7_findLeast_9 ?_
  refine kk_iconst ic_0 e_X7_findLeast_10 ?_
  refine kk_callVi (As := [.int r_1, .int (0 : Int32)]) (rest := []) e_X7_findLeast_11 ml_X7_73 ⟨_, _, _, _, rfl, rfl⟩ rfl (kk_fitR (by decide) (by decide)) (Nat.le_of_ble_eq_true rfl) rfl (s_X7_complete Z 30 r_1 (0 : Int32) σ _ h) (fun r_2 σ_3 h => ?_)
  refine kk_if_ne e_X7_findLeast_14 (fun c_13 => ?_) (fun c_13 => ?_)
  · replace h := h.1 c_13
    refine kk_iconst ic_0 e_X7_findLeast_19 ?_
    refine kk_istore_n (lv' := [(2, .int (0 : Int32)), (1, .int r_1), (0, .ref (Z.2.1 7))]) e_X7_findLeast_20 rfl (by decide) rfl ?_
    refine kk_sub [2, 1, 0] rfl ?_
    refine kk_lpW3 (P := fun (v1_4 : Int32) (v2_5 : Int32) (σ_6 : kk_St) => KK Z sh_C RX7 cX7_findLeast 3 (some .boolean) (kk_R 68) (kk_Qi Z sh_C Q) 21 [(0, .ref (Z.2.1 7)), (1, .int v1_4), (2, .int v2_5)] [] σ_6) ?_ h
    intro rec_7 hrec_7 v1_4 v2_5 σ_6 h
    refine kk_iload_n 2 rfl e_X7_findLeast_21 ?_
    refine kk_aload_n 0 rfl e_X7_findLeast_22 ?_
    refine kk_getr e_X7_findLeast_23 fl_X7_35 rfl rfl ?_
    refine kk_geti e_X7_findLeast_26 fl_X7_55 rfl rfl ?_
    refine kk_icmp_ge e_X7_findLeast_29 (fun c_12 => ?_) (fun c_12 => ?_)
    · replace h := h.1 c_12
      refine kk_iconst ic_1 e_X7_findLeast_89 ?_
      exact kk_zret e_X7_findLeast_90 (Or.inr rfl) h
    · replace h := h.2 c_12
      refine kk_iload_n 1 rfl e_X7_findLeast_32 ?_
      refine kk_iconst ic_1 e_X7_findLeast_33 ?_
      refine kk_iload_n 2 rfl e_X7_findLeast_34 ?_
      refine kk_ishl e_X7_findLeast_35 ?_
      refine kk_iconst ic_m1 e_X7_findLeast_36 ?_
      refine kk_ixor e_X7_findLeast_37 ?_
      refine kk_iand e_X7_findLeast_38 ?_
      refine kk_topi (fun v1_8 ev1_8 => ?_)
      replace h := h v1_8 ev1_8
      refine kk_istore_n (lv' := [(1, .int v1_8), (0, .ref (Z.2.1 7)), (2, .int v2_5)]) e_X7_findLeast_39 rfl (by decide) rfl ?_
      refine kk_aload_n 1 rfl e_X7_findLeast_40 ?_
      refine kk_iload_n 2 rfl e_X7_findLeast_41 ?_
      refine kk_iload_n 0 rfl e_X7_findLeast_42 ?_
      refine kk_callVv (As := [.int v2_5, .int v1_8]) (rest := []) e_X7_findLeast_43 ml_X7_84 ⟨_, _, _, _, rfl, rfl⟩ rfl (kk_fitR (by decide) (by decide)) (Nat.le_of_ble_eq_true rfl) rfl (s_X7_fixLeast Z v2_5 v1_8 σ_6 _ h) (fun σ_9 h => ?_)
      refine kk_aload_n 1 rfl e_X7_findLeast_46 ?_
      refine kk_getr e_X7_findLeast_47 fl_X7_18 rfl rfl ?_
      refine kk_iload_n 2 rfl e_X7_findLeast_50 ?_
      refine kk_aload_n 1 rfl e_X7_findLeast_51 ?_
      refine kk_getr e_X7_findLeast_52 fl_X7_15 rfl rfl ?_
      refine kk_iload_n 2 rfl e_X7_findLeast_55 ?_
      refine kk_iald e_X7_findLeast_56 rfl h.1 ?_
      replace h := h.2
      refine kk_iast e_X7_findLeast_57 rfl h.1 ?_
      replace h := h.2
      refine kk_tops (fun σ_10 eσ_10 => ?_)
      replace h := h σ_10 eσ_10
      refine kk_aload_n 1 rfl e_X7_findLeast_58 ?_
      refine kk_getr e_X7_findLeast_59 fl_X7_9 rfl rfl ?_
      refine kk_aload_n 1 rfl e_X7_findLeast_62 ?_
      refine kk_getr e_X7_findLeast_63 fl_X7_15 rfl rfl ?_
      refine kk_iload_n 2 rfl e_X7_findLeast_66 ?_
      refine kk_iald e_X7_findLeast_67 rfl h.1 ?_
      replace h := h.2
      refine kk_dup2 rfl rfl e_X7_findLeast_68 ?_
      refine kk_iald e_X7_findLeast_69 rfl h.1 ?_
      replace h := h.2
      refine kk_aload_n 1 rfl e_X7_findLeast_70 ?_
      refine kk_getr e_X7_findLeast_71 fl_X7_35 rfl rfl ?_
      refine kk_getr e_X7_findLeast_74 fl_X7_88 rfl rfl ?_
      refine kk_iload_n 2 rfl e_X7_findLeast_77 ?_
      refine kk_iald e_X7_findLeast_78 rfl h.1 ?_
      replace h := h.2
      refine kk_iconst ic_m1 e_X7_findLeast_79 ?_
      refine kk_ixor e_X7_findLeast_80 ?_
      refine kk_iand e_X7_findLeast_81 ?_
      refine kk_iast e_X7_findLeast_82 rfl h.1 ?_
      replace h := h.2
      refine kk_tops (fun σ_11 eσ_11 => ?_)
      replace h := h σ_11 eσ_11
      refine kk_iinc (lv' := [(2, .int (v2_5 + (1 : Int32))), (1, .int v1_8), (0, .ref (Z.2.1 7))]) e_X7_findLeast_83 (j := 2) rfl (ii_1 v2_5) (by decide) rfl ?_
      refine kk_goto e_X7_findLeast_86 ?_
      exact kk_sub [2, 1, 0] rfl (hrec_7 v1_8 (v2_5 + (1 : Int32)) σ_11 h)
  · replace h := h.2 c_13
    refine kk_iconst ic_0 e_X7_findLeast_17 ?_
    exact kk_zret e_X7_findLeast_18 (Or.inl rfl) h
theorem e_X7_findFirst_0 : kk_d cX7_findFirst 0 (.aload_n 0) 1 1 := ⟨by decide +kernel, rfl⟩
theorem e_X7_findFirst_1 : kk_d cX7_findFirst 1 (.getfield 21) 3 4 := ⟨by decide +kernel, rfl⟩
theorem e_X7_findFirst_4 : kk_d cX7_findFirst 4 (.iload_n 1) 1 5 := ⟨by decide +kernel, rfl⟩
theorem e_X7_findFirst_5 : kk_dj cX7_findFirst 5 (.if_icmp .eq 45) 3 (45) 8 50 := ⟨by decide +kernel, rfl, by decide⟩
theorem e_X7_findFirst_50 : kk_d cX7_findFirst 50 (.aload_n 0) 1 51 := ⟨by decide +kernel, rfl⟩
theorem e_X7_findFirst_51 : kk_d cX7_findFirst 51 (.getfield 25) 3 54 := ⟨by decide +kernel, rfl⟩
theorem e_X7_findFirst_54 : kk_d cX7_findFirst 54 .ireturn 1 55 := ⟨by decide +kernel, rfl⟩
theorem e_X7_findFirst_8 : kk_d cX7_findFirst 8 (.aload_n 0) 1 9 := ⟨by decide +kernel, rfl⟩
theorem e_X7_findFirst_9 : kk_d cX7_findFirst 9 (.iload_n 1) 1 10 := ⟨by decide +kernel, rfl⟩
theorem e_X7_findFirst_10 : kk_d cX7_findFirst 10 (.putfield 21) 3 13 := ⟨by decide +kernel, rfl⟩
theorem e_X7_findFirst_13 : kk_d cX7_findFirst 13 (.aload_n 0) 1 14 := ⟨by decide +kernel, rfl⟩
theorem e_X7_findFirst_14 : kk_d cX7_findFirst 14 (.iload_n 1) 1 15 := ⟨by decide +kernel, rfl⟩
theorem e_X7_findFirst_15 : kk_d cX7_findFirst 15 (.aload_n 0) 1 16 := ⟨by decide +kernel, rfl⟩
theorem e_X7_findFirst_16 : kk_d cX7_findFirst 16 (.invokevirtual 58) 3 19 := ⟨by decide +kernel, rfl⟩
theorem e_X7_findFirst_19 : kk_dj cX7_findFirst 19 (.if_icmp .lt 7) 3 (7) 22 26 := ⟨by decide +kernel, rfl, by decide⟩
theorem e_X7_findFirst_27 : kk_d cX7_findFirst 27 (.putfield 25) 3 30 := ⟨by decide +kernel, rfl⟩
theorem e_X7_findFirst_30 : kk_d cX7_findFirst 30 (.aload_n 0) 1 31 := ⟨by decide +kernel, rfl⟩
theorem e_X7_findFirst_31 : kk_d cX7_findFirst 31 (.getfield 25) 3 34 := ⟨by decide +kernel, rfl⟩
theorem e_X7_findFirst_34 : kk_dj cX7_findFirst 34 (.ifCond .eq 16) 3 (16) 37 50 := ⟨by decide +kernel, rfl, by decide⟩
theorem e_X7_findFirst_37 : kk_d cX7_findFirst 37 (.aload_n 0) 1 38 := ⟨by decide +kernel, rfl⟩
theorem e_X7_findFirst_38 : kk_d cX7_findFirst 38 (.iload_n 1) 1 39 := ⟨by decide +kernel, rfl⟩
theorem e_X7_findFirst_39 : kk_d cX7_findFirst 39 (.invokevirtual 69) 3 42 := ⟨by decide +kernel, rfl⟩
theorem e_X7_findFirst_42 : kk_d cX7_findFirst 42 (.aload_n 0) 1 43 := ⟨by decide +kernel, rfl⟩
theorem e_X7_findFirst_43 : kk_d cX7_findFirst 43 (.aload_n 0) 1 44 := ⟨by decide +kernel, rfl⟩
theorem e_X7_findFirst_44 : kk_d cX7_findFirst 44 (.invokevirtual 76) 3 47 := ⟨by decide +kernel, rfl⟩
theorem e_X7_findFirst_47 : kk_d cX7_findFirst 47 (.putfield 25) 3 50 := ⟨by decide +kernel, rfl⟩
theorem e_X7_findFirst_26 : kk_d cX7_findFirst 26 (.iconst 0) 1 27 := ⟨by decide +kernel, rfl⟩
theorem e_X7_findFirst_22 : kk_d cX7_findFirst 22 (.iconst 1) 1 23 := ⟨by decide +kernel, rfl⟩
theorem e_X7_findFirst_23 : kk_dj cX7_findFirst 23 (.goto 4) 3 (4) 26 27 := ⟨by decide +kernel, rfl, by decide⟩
set_option maxRecDepth 4000 in
theorem s_X7_findFirst (Z : kk_Z) (v1 : Int32) (σ : kk_St) (Q : Int32 → kk_St → Prop) (h : f_X7_findFirst v1 σ Q) : kk_M Z sh_C yX7_findFirst cX7_findFirst 2 (some .boolean) (kk_R 69) [.ref (Z.2.1 7), .int v1] σ (kk_Qi Z sh_C Q) := by
  unfold f_X7_findFirst at h
  refine kk_met (own := RX7) (by decide) rfl (Nat.le_of_ble_eq_true rfl) rfl ?_
  refine kk_aload_n 0 rfl e_X7_findFirst_0 ?_
  refine kk_geti e_X7_findFirst_1 fl_X7_21 rfl rfl ?_
  refine kk_iload_n 1 rfl e_X7_findFirst_4 ?_
  refine kk_jW1 (P := fun (σ_1 : kk_St) => KK Z sh_C RX7 cX7_findFirst 2 (some .boolean) (kk_R 69) (kk_Qi Z sh_C Q) 50 [(0, .ref (Z.2.1 7))] [] σ_1) h ?_ ?_
  · intro σ_1 h
    refine kk_aload_n 0 rfl e_X7_findFirst_50 ?_
    refine kk_geti e_X7_findFirst_51 fl_X7_25 rfl rfl ?_
    exact kk_zret e_X7_findFirst_54 h.1 h.2
  · intro J_2 hJ_2 h
    refine kk_icmp_eq e_X7_findFirst_5 (fun c_15 => ?_) (fun c_15 => ?_)
    · replace h := h.1 c_15
      exact kk_sub [0] rfl (hJ_2 σ h)
    · replace h := h.2 c_15
      refine kk_aload_n 0 rfl e_X7_findFirst_8 ?_
      refine kk_iload_n 1 rfl e_X7_findFirst_9 ?_
      refine kk_puti e_X7_findFirst_10 fl_X7_21 fn_X7_4 rfl rfl ?_
      refine kk_tops (fun σ_3 eσ_3 => ?_)
      replace h := h σ_3 eσ_3
      refine kk_aload_n 0 rfl e_X7_findFirst_13 ?_
      refine kk_iload_n 1 rfl e_X7_findFirst_14 ?_
      refine kk_aload_n 0 rfl e_X7_findFirst_15 ?_
      refine kk_callVi (As := []) (rest := [.int v1, .ref (Z.2.1 7)]) e_X7_findFirst_16 ml_X7_58 ⟨_, _, _, _, rfl, rfl⟩ rfl (kk_fitR (by decide) (by decide)) (Nat.le_of_ble_eq_true rfl) rfl (s_X7_fewest Z σ_3 _ h) (fun r_4 σ_5 h => ?_)
      refine kk_jW1 (P := fun (t_6 : Int32) => KK Z sh_C RX7 cX7_findFirst 2 (some .boolean) (kk_R 69) (kk_Qi Z sh_C Q) 27 [(0, .ref (Z.2.1 7)), (1, .int v1)] [.int t_6, .ref (Z.2.1 7)] σ_5) h ?_ ?_
      · intro t_6 h
        refine kk_putz e_X7_findFirst_27 fl_X7_25 fn_X7_5 h.1 rfl rfl ?_
        replace h := h.2
        refine kk_tops (fun σ_8 eσ_8 => ?_)
        replace h := h σ_8 eσ_8
        refine kk_aload_n 0 rfl e_X7_findFirst_30 ?_
        refine kk_geti e_X7_findFirst_31 fl_X7_25 rfl rfl ?_
        refine kk_if_eq e_X7_findFirst_34 (fun c_13 => ?_) (fun c_13 => ?_)
        · replace h := h.1 c_13
          exact kk_sub [0] rfl (hJ_2 σ_8 h)
        · replace h := h.2 c_13
          refine kk_aload_n 0 rfl e_X7_findFirst_37 ?_
          refine kk_iload_n 1 rfl e_X7_findFirst_38 ?_
          refine kk_callVv (As := [.int v1]) (rest := []) e_X7_findFirst_39 ml_X7_69 ⟨_, _, _, _, rfl, rfl⟩ rfl (kk_fitR (by decide) (by decide)) (Nat.le_of_ble_eq_true rfl) rfl (s_X7_openBelow Z v1 σ_8 _ h) (fun σ_9 h => ?_)
          refine kk_aload_n 0 rfl e_X7_findFirst_42 ?_
          refine kk_aload_n 0 rfl e_X7_findFirst_43 ?_
          refine kk_callVi (As := []) (rest := [.ref (Z.2.1 7)]) e_X7_findFirst_44 ml_X7_76 ⟨_, _, _, _, rfl, rfl⟩ rfl (kk_fitR (by decide) (by decide)) (Nat.le_of_ble_eq_true rfl) rfl (s_X7_findLeast Z σ_9 _ h) (fun r_10 σ_11 h => ?_)
          refine kk_putz e_X7_findFirst_47 fl_X7_25 fn_X7_5 h.1 rfl rfl ?_
          replace h := h.2
          refine kk_tops (fun σ_12 eσ_12 => ?_)
          replace h := h σ_12 eσ_12
          exact kk_sub [0] rfl (hJ_2 σ_12 h)
      · intro J_7 hJ_7 h
        refine kk_icmp_lt e_X7_findFirst_19 (fun c_14 => ?_) (fun c_14 => ?_)
        · replace h := h.1 c_14
          refine kk_iconst ic_0 e_X7_findFirst_26 ?_
          exact kk_sub [0, 1] rfl (hJ_7 (0 : Int32) h)
        · replace h := h.2 c_14
          refine kk_iconst ic_1 e_X7_findFirst_22 ?_
          refine kk_goto e_X7_findFirst_23 ?_
          exact kk_sub [0, 1] rfl (hJ_7 (1 : Int32) h)
theorem e_X10_first_0 : kk_d cX10_first 0 (.iload_n 1) 1 1 := ⟨by decide +kernel, rfl⟩
theorem e_X10_first_1 : kk_d cX10_first 1 (.invokestatic 260) 3 4 := ⟨by decide +kernel, rfl⟩
theorem e_X10_first_4 : kk_dj cX10_first 4 (.ifCond .eq 14) 3 (14) 7 18 := ⟨by decide +kernel, rfl, by decide⟩
theorem e_X10_first_18 : kk_d cX10_first 18 (.iconst (-1)) 1 19 := ⟨by decide +kernel, rfl⟩
theorem e_X10_first_19 : kk_d cX10_first 19 .ireturn 1 20 := ⟨by decide +kernel, rfl⟩
theorem e_X10_first_7 : kk_d cX10_first 7 (.aload_n 0) 1 8 := ⟨by decide +kernel, rfl⟩
theorem e_X10_first_8 : kk_d cX10_first 8 (.getfield 10) 3 11 := ⟨by decide +kernel, rfl⟩
theorem e_X10_first_11 : kk_d cX10_first 11 (.iload_n 2) 1 12 := ⟨by decide +kernel, rfl⟩
theorem e_X10_first_12 : kk_d cX10_first 12 (.invokevirtual 124) 3 15 := ⟨by decide +kernel, rfl⟩
theorem e_X10_first_15 : kk_dj cX10_first 15 (.ifCond .ne 5) 3 (5) 18 20 := ⟨by decide +kernel, rfl, by decide⟩
theorem e_X10_first_20 : kk_d cX10_first 20 (.aload_n 0) 1 21 := ⟨by decide +kernel, rfl⟩
theorem e_X10_first_21 : kk_d cX10_first 21 (.getfield 60) 3 24 := ⟨by decide +kernel, rfl⟩
theorem e_X10_first_24 : kk_d cX10_first 24 (.iload_n 1) 1 25 := ⟨by decide +kernel, rfl⟩
theorem e_X10_first_25 : kk_d cX10_first 25 (.invokevirtual 179) 3 28 := ⟨by decide +kernel, rfl⟩
theorem e_X10_first_28 : kk_dj cX10_first 28 (.ifCond .eq 15) 3 (15) 31 43 := ⟨by decide +kernel, rfl, by decide⟩
theorem e_X10_first_45 : kk_d cX10_first 45 .ireturn 1 46 := ⟨by decide +kernel, rfl⟩
theorem e_X10_first_43 : kk_d cX10_first 43 (.bipush (-2)) 2 45 := ⟨by decide +kernel, rfl⟩
theorem e_X10_first_31 : kk_d cX10_first 31 (.aload_n 0) 1 32 := ⟨by decide +kernel, rfl⟩
theorem e_X10_first_32 : kk_d cX10_first 32 (.getfield 60) 3 35 := ⟨by decide +kernel, rfl⟩
theorem e_X10_first_35 : kk_d cX10_first 35 (.getfield 182) 3 38 := ⟨by decide +kernel, rfl⟩
theorem e_X10_first_38 : kk_d cX10_first 38 (.iload_n 2) 1 39 := ⟨by decide +kernel, rfl⟩
theorem e_X10_first_39 : kk_d cX10_first 39 .iaload 1 40 := ⟨by decide +kernel, rfl⟩
theorem e_X10_first_40 : kk_dj cX10_first 40 (.goto 5) 3 (5) 43 45 := ⟨by decide +kernel, rfl, by decide⟩
set_option maxRecDepth 4000 in
theorem s_X10_first (Z : kk_Z) (v1 : Int32) (v2 : Int32) (σ : kk_St) (Q : Int32 → kk_St → Prop) (h : f_X10_first v1 v2 σ Q) : kk_M Z sh_C yX10_first cX10_first 3 (some .int) (kk_R 70) [.ref (Z.2.1 0), .int v1, .int v2] σ (kk_Qi Z sh_C Q) := by
  unfold f_X10_first at h
  refine kk_met (own := RX10) (by decide) rfl (Nat.le_of_ble_eq_true rfl) rfl ?_
  refine kk_iload_n 1 rfl e_X10_first_0 ?_
  refine kk_callSip (As := [.int v1]) (rest := []) e_X10_first_1 ml_X10_260 rfl (kk_fitR (by decide) (by decide)) (Nat.le_of_ble_eq_true rfl) rfl (s_X10_isFew Z v1 σ _ h) (fun r_1 h => ?_)
  refine kk_jW0 (P := KK Z sh_C RX10 cX10_first 3 (some .int) (kk_R 70) (kk_Qi Z sh_C Q) 18 [] [] σ) h ?_ ?_
  · intro h
    refine kk_iconst ic_m1 e_X10_first_18 ?_
    exact kk_iret e_X10_first_19 h
  · intro J_2 hJ_2 h
    refine kk_if_eq e_X10_first_4 (fun c_10 => ?_) (fun c_10 => ?_)
    · replace h := h.1 c_10
      exact kk_sub [] rfl (hJ_2 h)
    · replace h := h.2 c_10
      refine kk_aload_n 0 rfl e_X10_first_7 ?_
      refine kk_getr e_X10_first_8 fl_X10_10 rfl rfl ?_
      refine kk_iload_n 2 rfl e_X10_first_11 ?_
      refine kk_callVip (As := [.int v2]) (rest := []) e_X10_first_12 ml_X10_124 ⟨_, _, _, _, rfl, rfl⟩ rfl (kk_fitR (by decide) (by decide)) (Nat.le_of_ble_eq_true rfl) rfl (s_X6_isLine Z v2 σ _ h) (fun r_3 h => ?_)
      refine kk_if_ne e_X10_first_15 (fun c_9 => ?_) (fun c_9 => ?_)
      · replace h := h.1 c_9
        refine kk_aload_n 0 rfl e_X10_first_20 ?_
        refine kk_getr e_X10_first_21 fl_X10_60 rfl rfl ?_
        refine kk_iload_n 1 rfl e_X10_first_24 ?_
        refine kk_callVi (As := [.int v1]) (rest := []) e_X10_first_25 ml_X10_179 ⟨_, _, _, _, rfl, rfl⟩ rfl (kk_fitR (by decide) (by decide)) (Nat.le_of_ble_eq_true rfl) rfl (s_X7_findFirst Z v1 σ _ h) (fun r_4 σ_5 h => ?_)
        refine kk_jW1 (P := fun (t_6 : Int32) => KK Z sh_C RX10 cX10_first 3 (some .int) (kk_R 70) (kk_Qi Z sh_C Q) 45 [] [.int t_6] σ_5) h ?_ ?_
        · intro t_6 h
          exact kk_iret e_X10_first_45 h
        · intro J_7 hJ_7 h
          refine kk_if_eq e_X10_first_28 (fun c_8 => ?_) (fun c_8 => ?_)
          · replace h := h.1 c_8
            refine kk_bipush bp_m2 e_X10_first_43 ?_
            exact kk_sub [] rfl (hJ_7 (-2 : Int32) h)
          · replace h := h.2 c_8
            refine kk_aload_n 0 rfl e_X10_first_31 ?_
            refine kk_getr e_X10_first_32 fl_X10_60 rfl rfl ?_
            refine kk_getr e_X10_first_35 fl_X10_182 rfl rfl ?_
            refine kk_iload_n 2 rfl e_X10_first_38 ?_
            refine kk_iald e_X10_first_39 rfl h.1 ?_
            replace h := h.2
            refine kk_goto e_X10_first_40 ?_
            exact kk_sub [] rfl (hJ_7 (kk_rd σ_5 22 v2) h)
      · replace h := h.2 c_9
        exact kk_sub [] rfl (hJ_2 h)
theorem e_X10_free_0 : kk_d cX10_free 0 (.aload_n 0) 1 1 := ⟨by decide +kernel, rfl⟩
theorem e_X10_free_1 : kk_d cX10_free 1 (.getfield 10) 3 4 := ⟨by decide +kernel, rfl⟩
theorem e_X10_free_4 : kk_d cX10_free 4 (.iload_n 1) 1 5 := ⟨by decide +kernel, rfl⟩
theorem e_X10_free_5 : kk_d cX10_free 5 (.invokevirtual 124) 3 8 := ⟨by decide +kernel, rfl⟩
theorem e_X10_free_8 : kk_dj cX10_free 8 (.ifCond .eq 14) 3 (14) 11 22 := ⟨by decide +kernel, rfl, by decide⟩
theorem e_X10_free_23 : kk_d cX10_free 23 .ireturn 1 24 := ⟨by decide +kernel, rfl⟩
theorem e_X10_free_22 : kk_d cX10_free 22 (.iconst (-1)) 1 23 := ⟨by decide +kernel, rfl⟩
theorem e_X10_free_11 : kk_d cX10_free 11 (.aload_n 0) 1 12 := ⟨by decide +kernel, rfl⟩
theorem e_X10_free_12 : kk_d cX10_free 12 (.getfield 21) 3 15 := ⟨by decide +kernel, rfl⟩
theorem e_X10_free_15 : kk_d cX10_free 15 (.iload_n 1) 1 16 := ⟨by decide +kernel, rfl⟩
theorem e_X10_free_16 : kk_d cX10_free 16 (.invokevirtual 130) 3 19 := ⟨by decide +kernel, rfl⟩
theorem e_X10_free_19 : kk_dj cX10_free 19 (.goto 4) 3 (4) 22 23 := ⟨by decide +kernel, rfl, by decide⟩
set_option maxRecDepth 4000 in
theorem s_X10_free (Z : kk_Z) (v1 : Int32) (σ : kk_St) (Q : Int32 → Prop) (h : f_X10_free v1 σ Q) : kk_M Z sh_C yX10_free cX10_free 2 (some .int) (kk_R 5) [.ref (Z.2.1 0), .int v1] σ (kk_Qi Z sh_C (fun r σ' => σ' = σ ∧ Q r)) := by
  unfold f_X10_free at h
  refine kk_met (own := RX10) (by decide) rfl (Nat.le_of_ble_eq_true rfl) rfl ?_
  refine kk_aload_n 0 rfl e_X10_free_0 ?_
  refine kk_getr e_X10_free_1 fl_X10_10 rfl rfl ?_
  refine kk_iload_n 1 rfl e_X10_free_4 ?_
  refine kk_callVip (As := [.int v1]) (rest := []) e_X10_free_5 ml_X10_124 ⟨_, _, _, _, rfl, rfl⟩ rfl (kk_fitR (by decide) (by decide)) (Nat.le_of_ble_eq_true rfl) rfl (s_X6_isLine Z v1 σ _ h) (fun r_1 h => ?_)
  refine kk_jW1 (P := fun (t_2 : Int32) => KK Z sh_C RX10 cX10_free 2 (some .int) (kk_R 5) (kk_Qi Z sh_C (fun r σ' => σ' = σ ∧ Q r)) 23 [] [.int t_2] σ) h ?_ ?_
  · intro t_2 h
    exact kk_iret e_X10_free_23 ⟨rfl, h⟩
  · intro J_3 hJ_3 h
    refine kk_if_eq e_X10_free_8 (fun c_5 => ?_) (fun c_5 => ?_)
    · replace h := h.1 c_5
      refine kk_iconst ic_m1 e_X10_free_22 ?_
      exact kk_sub [] rfl (hJ_3 (-1 : Int32) h)
    · replace h := h.2 c_5
      refine kk_aload_n 0 rfl e_X10_free_11 ?_
      refine kk_getr e_X10_free_12 fl_X10_21 rfl rfl ?_
      refine kk_iload_n 1 rfl e_X10_free_15 ?_
      refine kk_callVip (As := [.int v1]) (rest := []) e_X10_free_16 ml_X10_130 ⟨_, _, _, _, rfl, rfl⟩ rfl (kk_fitR (by decide) (by decide)) (Nat.le_of_ble_eq_true rfl) rfl (s_X3_freeAtBoth Z v1 σ _ h) (fun r_4 h => ?_)
      refine kk_goto e_X10_free_19 ?_
      exact kk_sub [] rfl (hJ_3 r_4 h)
theorem e_X3_isFreeAt_0 : kk_d cX3_isFreeAt 0 (.aload_n 0) 1 1 := ⟨by decide +kernel, rfl⟩
theorem e_X3_isFreeAt_1 : kk_d cX3_isFreeAt 1 (.iload_n 1) 1 2 := ⟨by decide +kernel, rfl⟩
theorem e_X3_isFreeAt_2 : kk_d cX3_isFreeAt 2 (.invokevirtual 69) 3 5 := ⟨by decide +kernel, rfl⟩
theorem e_X3_isFreeAt_5 : kk_d cX3_isFreeAt 5 (.iload_n 2) 1 6 := ⟨by decide +kernel, rfl⟩
theorem e_X3_isFreeAt_6 : kk_d cX3_isFreeAt 6 .ishr 1 7 := ⟨by decide +kernel, rfl⟩
theorem e_X3_isFreeAt_7 : kk_d cX3_isFreeAt 7 (.iconst 1) 1 8 := ⟨by decide +kernel, rfl⟩
theorem e_X3_isFreeAt_8 : kk_d cX3_isFreeAt 8 .iand 1 9 := ⟨by decide +kernel, rfl⟩
theorem e_X3_isFreeAt_9 : kk_dj cX3_isFreeAt 9 (.ifCond .eq 7) 3 (7) 12 16 := ⟨by decide +kernel, rfl, by decide⟩
theorem e_X3_isFreeAt_17 : kk_d cX3_isFreeAt 17 .ireturn 1 18 := ⟨by decide +kernel, rfl⟩
theorem e_X3_isFreeAt_16 : kk_d cX3_isFreeAt 16 (.iconst 0) 1 17 := ⟨by decide +kernel, rfl⟩
theorem e_X3_isFreeAt_12 : kk_d cX3_isFreeAt 12 (.iconst 1) 1 13 := ⟨by decide +kernel, rfl⟩
theorem e_X3_isFreeAt_13 : kk_dj cX3_isFreeAt 13 (.goto 4) 3 (4) 16 17 := ⟨by decide +kernel, rfl, by decide⟩
set_option maxRecDepth 4000 in
theorem s_X3_isFreeAt (Z : kk_Z) (v1 : Int32) (v2 : Int32) (σ : kk_St) (Q : Int32 → Prop) (h : f_X3_isFreeAt v1 v2 σ Q) : kk_M Z sh_C yX3_isFreeAt cX3_isFreeAt 3 (some .boolean) (kk_R 4) [.ref (Z.2.1 2), .int v1, .int v2] σ (kk_Qi Z sh_C (fun r σ' => σ' = σ ∧ Q r)) := by
  unfold f_X3_isFreeAt at h
  refine kk_met (own := RX3) (by decide) rfl (Nat.le_of_ble_eq_true rfl) rfl ?_
  refine kk_aload_n 0 rfl e_X3_isFreeAt_0 ?_
  refine kk_iload_n 1 rfl e_X3_isFreeAt_1 ?_
  refine kk_callVip (As := [.int v1]) (rest := []) e_X3_isFreeAt_2 ml_X3_69 ⟨_, _, _, _, rfl, rfl⟩ rfl (kk_fitR (by decide) (by decide)) (Nat.le_of_ble_eq_true rfl) rfl (s_X3_freeAt Z v1 σ _ h) (fun r_1 h => ?_)
  refine kk_iload_n 2 rfl e_X3_isFreeAt_5 ?_
  refine kk_ishr e_X3_isFreeAt_6 ?_
  refine kk_iconst ic_1 e_X3_isFreeAt_7 ?_
  refine kk_iand e_X3_isFreeAt_8 ?_
  refine kk_jW1 (P := fun (t_2 : Int32) => KK Z sh_C RX3 cX3_isFreeAt 3 (some .boolean) (kk_R 4) (kk_Qi Z sh_C (fun r σ' => σ' = σ ∧ Q r)) 17 [] [.int t_2] σ) h ?_ ?_
  · intro t_2 h
    exact kk_zret e_X3_isFreeAt_17 h.1 ⟨rfl, h.2⟩
  · intro J_3 hJ_3 h
    refine kk_if_eq e_X3_isFreeAt_9 (fun c_4 => ?_) (fun c_4 => ?_)
    · replace h := h.1 c_4
      refine kk_iconst ic_0 e_X3_isFreeAt_16 ?_
      exact kk_sub [] rfl (hJ_3 (0 : Int32) h)
    · replace h := h.2 c_4
      refine kk_iconst ic_1 e_X3_isFreeAt_12 ?_
      refine kk_goto e_X3_isFreeAt_13 ?_
      exact kk_sub [] rfl (hJ_3 (1 : Int32) h)
theorem e_X3_leastFreeAt_0 : kk_d cX3_leastFreeAt 0 (.aload_n 0) 1 1 := ⟨by decide +kernel, rfl⟩
theorem e_X3_leastFreeAt_1 : kk_d cX3_leastFreeAt 1 (.iload_n 1) 1 2 := ⟨by decide +kernel, rfl⟩
theorem e_X3_leastFreeAt_2 : kk_d cX3_leastFreeAt 2 (.invokevirtual 69) 3 5 := ⟨by decide +kernel, rfl⟩
theorem e_X3_leastFreeAt_5 : kk_d cX3_leastFreeAt 5 (.invokestatic 75) 3 8 := ⟨by decide +kernel, rfl⟩
theorem e_X3_leastFreeAt_8 : kk_d cX3_leastFreeAt 8 .ireturn 1 9 := ⟨by decide +kernel, rfl⟩
set_option maxRecDepth 4000 in
theorem s_X3_leastFreeAt (Z : kk_Z) (v1 : Int32) (σ : kk_St) (Q : Int32 → Prop) (h : f_X3_leastFreeAt v1 σ Q) : kk_M Z sh_C yX3_leastFreeAt cX3_leastFreeAt 2 (some .int) (kk_R 4) [.ref (Z.2.1 2), .int v1] σ (kk_Qi Z sh_C (fun r σ' => σ' = σ ∧ Q r)) := by
  unfold f_X3_leastFreeAt at h
  refine kk_met (own := RX3) (by decide) rfl (Nat.le_of_ble_eq_true rfl) rfl ?_
  refine kk_aload_n 0 rfl e_X3_leastFreeAt_0 ?_
  refine kk_iload_n 1 rfl e_X3_leastFreeAt_1 ?_
  refine kk_callVip (As := [.int v1]) (rest := []) e_X3_leastFreeAt_2 ml_X3_69 ⟨_, _, _, _, rfl, rfl⟩ rfl (kk_fitR (by decide) (by decide)) (Nat.le_of_ble_eq_true rfl) rfl (s_X3_freeAt Z v1 σ _ h) (fun r_1 h => ?_)
  refine kk_callSip (As := [.int r_1]) (rest := []) e_X3_leastFreeAt_5 ml_X3_75 rfl (kk_fitR (by decide) (by decide)) (Nat.le_of_ble_eq_true rfl) rfl (s_J6_numberOfTrailingZeros_0f7a4 Z r_1 σ _ h) (fun r_2 h => ?_)
  exact kk_iret e_X3_leastFreeAt_8 ⟨rfl, h⟩
theorem e_X6_lineBetween_0 : kk_d cX6_lineBetween 0 (.aload_n 0) 1 1 := ⟨by decide +kernel, rfl⟩
theorem e_X6_lineBetween_1 : kk_d cX6_lineBetween 1 (.getfield 21) 3 4 := ⟨by decide +kernel, rfl⟩
theorem e_X6_lineBetween_4 : kk_d cX6_lineBetween 4 (.iload_n 1) 1 5 := ⟨by decide +kernel, rfl⟩
theorem e_X6_lineBetween_5 : kk_d cX6_lineBetween 5 .iaload 1 6 := ⟨by decide +kernel, rfl⟩
theorem e_X6_lineBetween_6 : kk_d cX6_lineBetween 6 (.aload_n 0) 1 7 := ⟨by decide +kernel, rfl⟩
theorem e_X6_lineBetween_7 : kk_d cX6_lineBetween 7 (.getfield 21) 3 10 := ⟨by decide +kernel, rfl⟩
theorem e_X6_lineBetween_10 : kk_d cX6_lineBetween 10 (.iload_n 2) 1 11 := ⟨by decide +kernel, rfl⟩
theorem e_X6_lineBetween_11 : kk_d cX6_lineBetween 11 .iaload 1 12 := ⟨by decide +kernel, rfl⟩
theorem e_X6_lineBetween_12 : kk_d cX6_lineBetween 12 .iand 1 13 := ⟨by decide +kernel, rfl⟩
theorem e_X6_lineBetween_13 : kk_d cX6_lineBetween 13 (.istore_n 3) 1 14 := ⟨by decide +kernel, rfl⟩
theorem e_X6_lineBetween_14 : kk_d cX6_lineBetween 14 (.iload_n 3) 1 15 := ⟨by decide +kernel, rfl⟩
theorem e_X6_lineBetween_15 : kk_dj cX6_lineBetween 15 (.ifCond .ne 7) 3 (7) 18 22 := ⟨by decide +kernel, rfl, by decide⟩
theorem e_X6_lineBetween_26 : kk_d cX6_lineBetween 26 .ireturn 1 27 := ⟨by decide +kernel, rfl⟩
theorem e_X6_lineBetween_22 : kk_d cX6_lineBetween 22 (.iload_n 3) 1 23 := ⟨by decide +kernel, rfl⟩
theorem e_X6_lineBetween_23 : kk_d cX6_lineBetween 23 (.invokestatic 60) 3 26 := ⟨by decide +kernel, rfl⟩
theorem e_X6_lineBetween_18 : kk_d cX6_lineBetween 18 (.iconst (-1)) 1 19 := ⟨by decide +kernel, rfl⟩
theorem e_X6_lineBetween_19 : kk_dj cX6_lineBetween 19 (.goto 7) 3 (7) 22 26 := ⟨by decide +kernel, rfl, by decide⟩
set_option maxRecDepth 4000 in
theorem s_X6_lineBetween (Z : kk_Z) (v1 : Int32) (v2 : Int32) (σ : kk_St) (Q : Int32 → Prop) (h : f_X6_lineBetween v1 v2 σ Q) : kk_M Z sh_C yX6_lineBetween cX6_lineBetween 4 (some .int) (kk_R 3) [.ref (Z.2.1 1), .int v1, .int v2] σ (kk_Qi Z sh_C (fun r σ' => σ' = σ ∧ Q r)) := by
  unfold f_X6_lineBetween at h
  refine kk_met (own := RX6) (by decide) rfl (Nat.le_of_ble_eq_true rfl) rfl ?_
  refine kk_aload_n 0 rfl e_X6_lineBetween_0 ?_
  refine kk_getr e_X6_lineBetween_1 fl_X6_21 rfl rfl ?_
  refine kk_iload_n 1 rfl e_X6_lineBetween_4 ?_
  refine kk_iald e_X6_lineBetween_5 rfl h.1 ?_
  replace h := h.2
  refine kk_aload_n 0 rfl e_X6_lineBetween_6 ?_
  refine kk_getr e_X6_lineBetween_7 fl_X6_21 rfl rfl ?_
  refine kk_iload_n 2 rfl e_X6_lineBetween_10 ?_
  refine kk_iald e_X6_lineBetween_11 rfl h.1 ?_
  replace h := h.2
  refine kk_iand e_X6_lineBetween_12 ?_
  refine kk_topi (fun v3_1 ev3_1 => ?_)
  replace h := h v3_1 ev3_1
  refine kk_istore_n (lv' := [(3, .int v3_1), (0, .ref (Z.2.1 1)), (1, .int v1), (2, .int v2)]) e_X6_lineBetween_13 rfl (by decide) rfl ?_
  refine kk_iload_n 0 rfl e_X6_lineBetween_14 ?_
  refine kk_jW1 (P := fun (t_2 : Int32) => KK Z sh_C RX6 cX6_lineBetween 4 (some .int) (kk_R 3) (kk_Qi Z sh_C (fun r σ' => σ' = σ ∧ Q r)) 26 [] [.int t_2] σ) h ?_ ?_
  · intro t_2 h
    exact kk_iret e_X6_lineBetween_26 ⟨rfl, h⟩
  · intro J_3 hJ_3 h
    refine kk_if_ne e_X6_lineBetween_15 (fun c_5 => ?_) (fun c_5 => ?_)
    · replace h := h.1 c_5
      refine kk_iload_n 0 rfl e_X6_lineBetween_22 ?_
      refine kk_callSip (As := [.int v3_1]) (rest := []) e_X6_lineBetween_23 ml_X6_60 rfl (kk_fitR (by decide) (by decide)) (Nat.le_of_ble_eq_true rfl) rfl (s_J6_numberOfTrailingZeros_0f7a4 Z v3_1 σ _ h) (fun r_4 h => ?_)
      exact kk_sub [] rfl (hJ_3 r_4 h)
    · replace h := h.2 c_5
      refine kk_iconst ic_m1 e_X6_lineBetween_18 ?_
      refine kk_goto e_X6_lineBetween_19 ?_
      exact kk_sub [] rfl (hJ_3 (-1 : Int32) h)
theorem e_X4_follows_0 : kk_d cX4_follows 0 (.aload_n 0) 1 1 := ⟨by decide +kernel, rfl⟩
theorem e_X4_follows_1 : kk_d cX4_follows 1 (.getfield 19) 3 4 := ⟨by decide +kernel, rfl⟩
theorem e_X4_follows_4 : kk_d cX4_follows 4 (.iload_n 1) 1 5 := ⟨by decide +kernel, rfl⟩
theorem e_X4_follows_5 : kk_d cX4_follows 5 (.aload_n 0) 1 6 := ⟨by decide +kernel, rfl⟩
theorem e_X4_follows_6 : kk_d cX4_follows 6 (.getfield 9) 3 9 := ⟨by decide +kernel, rfl⟩
theorem e_X4_follows_9 : kk_d cX4_follows 9 (.iload_n 2) 1 10 := ⟨by decide +kernel, rfl⟩
theorem e_X4_follows_10 : kk_d cX4_follows 10 .iaload 1 11 := ⟨by decide +kernel, rfl⟩
theorem e_X4_follows_11 : kk_d cX4_follows 11 (.invokevirtual 53) 3 14 := ⟨by decide +kernel, rfl⟩
theorem e_X4_follows_14 : kk_d cX4_follows 14 (.istore_n 3) 1 15 := ⟨by decide +kernel, rfl⟩
theorem e_X4_follows_15 : kk_d cX4_follows 15 (.iload_n 3) 1 16 := ⟨by decide +kernel, rfl⟩
theorem e_X4_follows_16 : kk_d cX4_follows 16 (.iconst (-1)) 1 17 := ⟨by decide +kernel, rfl⟩
theorem e_X4_follows_17 : kk_dj cX4_follows 17 (.if_icmp .eq 16) 3 (16) 20 33 := ⟨by decide +kernel, rfl, by decide⟩
theorem e_X4_follows_33 : kk_d cX4_follows 33 (.iconst 0) 1 34 := ⟨by decide +kernel, rfl⟩
theorem e_X4_follows_34 : kk_d cX4_follows 34 .ireturn 1 35 := ⟨by decide +kernel, rfl⟩
theorem e_X4_follows_20 : kk_d cX4_follows 20 (.aload_n 0) 1 21 := ⟨by decide +kernel, rfl⟩
theorem e_X4_follows_21 : kk_d cX4_follows 21 (.getfield 23) 3 24 := ⟨by decide +kernel, rfl⟩
theorem e_X4_follows_24 : kk_d cX4_follows 24 (.getfield 56) 3 27 := ⟨by decide +kernel, rfl⟩
theorem e_X4_follows_27 : kk_d cX4_follows 27 (.iload_n 3) 1 28 := ⟨by decide +kernel, rfl⟩
theorem e_X4_follows_28 : kk_d cX4_follows 28 .iaload 1 29 := ⟨by decide +kernel, rfl⟩
theorem e_X4_follows_29 : kk_d cX4_follows 29 (.iconst (-1)) 1 30 := ⟨by decide +kernel, rfl⟩
theorem e_X4_follows_30 : kk_dj cX4_follows 30 (.if_icmp .ne 5) 3 (5) 33 35 := ⟨by decide +kernel, rfl, by decide⟩
theorem e_X4_follows_35 : kk_d cX4_follows 35 (.aload_n 0) 1 36 := ⟨by decide +kernel, rfl⟩
theorem e_X4_follows_36 : kk_d cX4_follows 36 (.getfield 23) 3 39 := ⟨by decide +kernel, rfl⟩
theorem e_X4_follows_39 : kk_d cX4_follows 39 (.aload_n 0) 1 40 := ⟨by decide +kernel, rfl⟩
theorem e_X4_follows_40 : kk_d cX4_follows 40 (.getfield 9) 3 43 := ⟨by decide +kernel, rfl⟩
theorem e_X4_follows_43 : kk_d cX4_follows 43 (.iload_n 2) 1 44 := ⟨by decide +kernel, rfl⟩
theorem e_X4_follows_44 : kk_d cX4_follows 44 (.iconst 1) 1 45 := ⟨by decide +kernel, rfl⟩
theorem e_X4_follows_45 : kk_d cX4_follows 45 .isub 1 46 := ⟨by decide +kernel, rfl⟩
theorem e_X4_follows_46 : kk_d cX4_follows 46 .iaload 1 47 := ⟨by decide +kernel, rfl⟩
theorem e_X4_follows_47 : kk_d cX4_follows 47 (.aload_n 0) 1 48 := ⟨by decide +kernel, rfl⟩
theorem e_X4_follows_48 : kk_d cX4_follows 48 (.getfield 23) 3 51 := ⟨by decide +kernel, rfl⟩
theorem e_X4_follows_51 : kk_d cX4_follows 51 (.getfield 56) 3 54 := ⟨by decide +kernel, rfl⟩
theorem e_X4_follows_54 : kk_d cX4_follows 54 (.iload_n 3) 1 55 := ⟨by decide +kernel, rfl⟩
theorem e_X4_follows_55 : kk_d cX4_follows 55 .iaload 1 56 := ⟨by decide +kernel, rfl⟩
theorem e_X4_follows_56 : kk_d cX4_follows 56 (.invokevirtual 50) 3 59 := ⟨by decide +kernel, rfl⟩
theorem e_X4_follows_59 : kk_d cX4_follows 59 .ireturn 1 60 := ⟨by decide +kernel, rfl⟩
set_option maxRecDepth 4000 in
theorem s_X4_follows (Z : kk_Z) (v1 : Int32) (v2 : Int32) (σ : kk_St) (Q : Int32 → Prop) (h : f_X4_follows v1 v2 σ Q) : kk_M Z sh_C yX4_follows cX4_follows 4 (some .boolean) (kk_R 5) [.ref (Z.2.1 3), .int v1, .int v2] σ (kk_Qi Z sh_C (fun r σ' => σ' = σ ∧ Q r)) := by
  unfold f_X4_follows at h
  refine kk_met (own := RX4) (by decide) rfl (Nat.le_of_ble_eq_true rfl) rfl ?_
  refine kk_aload_n 0 rfl e_X4_follows_0 ?_
  refine kk_getr e_X4_follows_1 fl_X4_19 rfl rfl ?_
  refine kk_iload_n 1 rfl e_X4_follows_4 ?_
  refine kk_aload_n 0 rfl e_X4_follows_5 ?_
  refine kk_getr e_X4_follows_6 fl_X4_9 rfl rfl ?_
  refine kk_iload_n 2 rfl e_X4_follows_9 ?_
  refine kk_iald e_X4_follows_10 rfl h.1 ?_
  replace h := h.2
  refine kk_callVip (As := [.int v1, .int (kk_rd σ 18 v2)]) (rest := []) e_X4_follows_11 ml_X4_53 ⟨_, _, _, _, rfl, rfl⟩ rfl (kk_fitR (by decide) (by decide)) (Nat.le_of_ble_eq_true rfl) rfl (s_X6_lineBetween Z v1 (kk_rd σ 18 v2) σ _ h) (fun r_1 h => ?_)
  refine kk_istore_n (lv' := [(3, .int r_1), (0, .ref (Z.2.1 3)), (1, .int v1), (2, .int v2)]) e_X4_follows_14 rfl (by decide) rfl ?_
  refine kk_iload_n 0 rfl e_X4_follows_15 ?_
  refine kk_iconst ic_m1 e_X4_follows_16 ?_
  refine kk_jW0 (P := KK Z sh_C RX4 cX4_follows 4 (some .boolean) (kk_R 5) (kk_Qi Z sh_C (fun r σ' => σ' = σ ∧ Q r)) 33 [] [] σ) h ?_ ?_
  · intro h
    refine kk_iconst ic_0 e_X4_follows_33 ?_
    exact kk_zret e_X4_follows_34 (Or.inl rfl) ⟨rfl, h⟩
  · intro J_2 hJ_2 h
    refine kk_icmp_eq e_X4_follows_17 (fun c_5 => ?_) (fun c_5 => ?_)
    · replace h := h.1 c_5
      exact kk_sub [] rfl (hJ_2 h)
    · replace h := h.2 c_5
      refine kk_aload_n 1 rfl e_X4_follows_20 ?_
      refine kk_getr e_X4_follows_21 fl_X4_23 rfl rfl ?_
      refine kk_getr e_X4_follows_24 fl_X4_56 rfl rfl ?_
      refine kk_iload_n 0 rfl e_X4_follows_27 ?_
      refine kk_iald e_X4_follows_28 rfl h.1 ?_
      replace h := h.2
      refine kk_iconst ic_m1 e_X4_follows_29 ?_
      refine kk_icmp_ne e_X4_follows_30 (fun c_4 => ?_) (fun c_4 => ?_)
      · replace h := h.1 c_4
        refine kk_aload_n 1 rfl e_X4_follows_35 ?_
        refine kk_getr e_X4_follows_36 fl_X4_23 rfl rfl ?_
        refine kk_aload_n 1 rfl e_X4_follows_39 ?_
        refine kk_getr e_X4_follows_40 fl_X4_9 rfl rfl ?_
        refine kk_iload_n 3 rfl e_X4_follows_43 ?_
        refine kk_iconst ic_1 e_X4_follows_44 ?_
        refine kk_isub e_X4_follows_45 ?_
        refine kk_iald e_X4_follows_46 rfl h.1 ?_
        replace h := h.2
        refine kk_aload_n 1 rfl e_X4_follows_47 ?_
        refine kk_getr e_X4_follows_48 fl_X4_23 rfl rfl ?_
        refine kk_getr e_X4_follows_51 fl_X4_56 rfl rfl ?_
        refine kk_iload_n 0 rfl e_X4_follows_54 ?_
        refine kk_iald e_X4_follows_55 rfl h.1 ?_
        replace h := h.2
        refine kk_callVip (As := [.int (kk_rd σ 18 (v2 - (1 : Int32))), .int (kk_rd σ 16 r_1)]) (rest := []) e_X4_follows_56 ml_X4_50 ⟨_, _, _, _, rfl, rfl⟩ rfl (kk_fitR (by decide) (by decide)) (Nat.le_of_ble_eq_true rfl) rfl (s_X3_isFreeAt Z (kk_rd σ 18 (v2 - (1 : Int32))) (kk_rd σ 16 r_1) σ _ h) (fun r_3 h => ?_)
        exact kk_zret e_X4_follows_59 h.1 ⟨rfl, h.2⟩
      · replace h := h.2 c_4
        exact kk_sub [] rfl (hJ_2 h)
theorem e_X4_placeLacking_0 : kk_d cX4_placeLacking 0 (.iconst 0) 1 1 := ⟨by decide +kernel, rfl⟩
theorem e_X4_placeLacking_1 : kk_d cX4_placeLacking 1 (.istore_n 3) 1 2 := ⟨by decide +kernel, rfl⟩
theorem e_X4_placeLacking_2 : kk_d cX4_placeLacking 2 (.iload_n 3) 1 3 := ⟨by decide +kernel, rfl⟩
theorem e_X4_placeLacking_3 : kk_d cX4_placeLacking 3 (.aload_n 0) 1 4 := ⟨by decide +kernel, rfl⟩
theorem e_X4_placeLacking_4 : kk_d cX4_placeLacking 4 (.getfield 15) 3 7 := ⟨by decide +kernel, rfl⟩
theorem e_X4_placeLacking_7 : kk_dj cX4_placeLacking 7 (.if_icmp .ge 43) 3 (43) 10 50 := ⟨by decide +kernel, rfl, by decide⟩
theorem e_X4_placeLacking_50 : kk_d cX4_placeLacking 50 (.iconst (-1)) 1 51 := ⟨by decide +kernel, rfl⟩
theorem e_X4_placeLacking_51 : kk_d cX4_placeLacking 51 .ireturn 1 52 := ⟨by decide +kernel, rfl⟩
theorem e_X4_placeLacking_10 : kk_d cX4_placeLacking 10 (.iload_n 3) 1 11 := ⟨by decide +kernel, rfl⟩
theorem e_X4_placeLacking_11 : kk_dj cX4_placeLacking 11 (.ifCond .le 14) 3 (14) 14 25 := ⟨by decide +kernel, rfl, by decide⟩
theorem e_X4_placeLacking_25 : kk_d cX4_placeLacking 25 (.aload_n 0) 1 26 := ⟨by decide +kernel, rfl⟩
theorem e_X4_placeLacking_26 : kk_d cX4_placeLacking 26 (.getfield 23) 3 29 := ⟨by decide +kernel, rfl⟩
theorem e_X4_placeLacking_29 : kk_d cX4_placeLacking 29 (.aload_n 0) 1 30 := ⟨by decide +kernel, rfl⟩
theorem e_X4_placeLacking_30 : kk_d cX4_placeLacking 30 (.getfield 9) 3 33 := ⟨by decide +kernel, rfl⟩
theorem e_X4_placeLacking_33 : kk_d cX4_placeLacking 33 (.iload_n 3) 1 34 := ⟨by decide +kernel, rfl⟩
theorem e_X4_placeLacking_34 : kk_d cX4_placeLacking 34 .iaload 1 35 := ⟨by decide +kernel, rfl⟩
theorem e_X4_placeLacking_35 : kk_d cX4_placeLacking 35 (.iload_n 2) 1 36 := ⟨by decide +kernel, rfl⟩
theorem e_X4_placeLacking_36 : kk_d cX4_placeLacking 36 (.invokevirtual 50) 3 39 := ⟨by decide +kernel, rfl⟩
theorem e_X4_placeLacking_39 : kk_dj cX4_placeLacking 39 (.ifCond .eq 5) 3 (5) 42 44 := ⟨by decide +kernel, rfl, by decide⟩
theorem e_X4_placeLacking_44 : kk_d cX4_placeLacking 44 (.iinc 3 1) 3 47 := ⟨by decide +kernel, rfl⟩
theorem e_X4_placeLacking_47 : kk_dj cX4_placeLacking 47 (.goto (-45)) 3 (-45) 50 2 := ⟨by decide +kernel, rfl, by decide⟩
theorem e_X4_placeLacking_42 : kk_d cX4_placeLacking 42 (.iload_n 3) 1 43 := ⟨by decide +kernel, rfl⟩
theorem e_X4_placeLacking_43 : kk_d cX4_placeLacking 43 .ireturn 1 44 := ⟨by decide +kernel, rfl⟩
theorem e_X4_placeLacking_14 : kk_d cX4_placeLacking 14 (.aload_n 0) 1 15 := ⟨by decide +kernel, rfl⟩
theorem e_X4_placeLacking_15 : kk_d cX4_placeLacking 15 (.iload_n 1) 1 16 := ⟨by decide +kernel, rfl⟩
theorem e_X4_placeLacking_16 : kk_d cX4_placeLacking 16 (.iload_n 3) 1 17 := ⟨by decide +kernel, rfl⟩
theorem e_X4_placeLacking_17 : kk_d cX4_placeLacking 17 (.invokevirtual 46) 3 20 := ⟨by decide +kernel, rfl⟩
theorem e_X4_placeLacking_20 : kk_dj cX4_placeLacking 20 (.ifCond .ne 5) 3 (5) 23 25 := ⟨by decide +kernel, rfl, by decide⟩
theorem e_X4_placeLacking_23 : kk_d cX4_placeLacking 23 (.iconst (-1)) 1 24 := ⟨by decide +kernel, rfl⟩
theorem e_X4_placeLacking_24 : kk_d cX4_placeLacking 24 .ireturn 1 25 := ⟨by decide +kernel, rfl⟩
set_option maxRecDepth 4000 in
theorem s_X4_placeLacking (Z : kk_Z) (v1 : Int32) (v2 : Int32) (σ : kk_St) (Q : Int32 → Prop) (h : f_X4_placeLacking v1 v2 σ Q) : kk_M Z sh_C yX4_placeLacking cX4_placeLacking 4 (some .int) (kk_R 6) [.ref (Z.2.1 3), .int v1, .int v2] σ (kk_Qi Z sh_C (fun r σ' => σ' = σ ∧ Q r)) := by
  unfold f_X4_placeLacking at h
  refine kk_met (own := RX4) (by decide) rfl (Nat.le_of_ble_eq_true rfl) rfl ?_
  refine kk_iconst ic_0 e_X4_placeLacking_0 ?_
  refine kk_istore_n (lv' := [(3, .int (0 : Int32)), (0, .ref (Z.2.1 3)), (1, .int v1), (2, .int v2)]) e_X4_placeLacking_1 rfl (by decide) rfl ?_
  refine kk_sub [1, 2, 3, 0] rfl ?_
  refine kk_lpW1 (P := fun (v3_1 : Int32) => KK Z sh_C RX4 cX4_placeLacking 4 (some .int) (kk_R 6) (kk_Qi Z sh_C (fun r σ' => σ' = σ ∧ Q r)) 2 [(0, .ref (Z.2.1 3)), (1, .int v1), (2, .int v2), (3, .int v3_1)] [] σ) ?_ h
  intro rec_2 hrec_2 v3_1 h
  refine kk_iload_n 3 rfl e_X4_placeLacking_2 ?_
  refine kk_aload_n 0 rfl e_X4_placeLacking_3 ?_
  refine kk_geti e_X4_placeLacking_4 fl_X4_15 rfl rfl ?_
  refine kk_icmp_ge e_X4_placeLacking_7 (fun c_9 => ?_) (fun c_9 => ?_)
  · replace h := h.1 c_9
    refine kk_iconst ic_m1 e_X4_placeLacking_50 ?_
    exact kk_iret e_X4_placeLacking_51 ⟨rfl, h⟩
  · replace h := h.2 c_9
    refine kk_iload_n 3 rfl e_X4_placeLacking_10 ?_
    refine kk_jW0 (P := KK Z sh_C RX4 cX4_placeLacking 4 (some .int) (kk_R 6) (kk_Qi Z sh_C (fun r σ' => σ' = σ ∧ Q r)) 25 [(0, .ref (Z.2.1 3)), (1, .int v1), (2, .int v2), (3, .int v3_1)] [] σ) h ?_ ?_
    · intro h
      refine kk_aload_n 0 rfl e_X4_placeLacking_25 ?_
      refine kk_getr e_X4_placeLacking_26 fl_X4_23 rfl rfl ?_
      refine kk_aload_n 0 rfl e_X4_placeLacking_29 ?_
      refine kk_getr e_X4_placeLacking_30 fl_X4_9 rfl rfl ?_
      refine kk_iload_n 3 rfl e_X4_placeLacking_33 ?_
      refine kk_iald e_X4_placeLacking_34 rfl h.1 ?_
      replace h := h.2
      refine kk_iload_n 2 rfl e_X4_placeLacking_35 ?_
      refine kk_callVip (As := [.int (kk_rd σ 18 v3_1), .int v2]) (rest := []) e_X4_placeLacking_36 ml_X4_50 ⟨_, _, _, _, rfl, rfl⟩ rfl (kk_fitR (by decide) (by decide)) (Nat.le_of_ble_eq_true rfl) rfl (s_X3_isFreeAt Z (kk_rd σ 18 v3_1) v2 σ _ h) (fun r_4 h => ?_)
      refine kk_if_eq e_X4_placeLacking_39 (fun c_5 => ?_) (fun c_5 => ?_)
      · replace h := h.1 c_5
        refine kk_iinc (lv' := [(3, .int (v3_1 + (1 : Int32))), (0, .ref (Z.2.1 3)), (1, .int v1), (2, .int v2)]) e_X4_placeLacking_44 (j := 3) rfl (ii_1 v3_1) (by decide) rfl ?_
        refine kk_goto e_X4_placeLacking_47 ?_
        exact kk_sub [1, 2, 3, 0] rfl (hrec_2 (v3_1 + (1 : Int32)) h)
      · replace h := h.2 c_5
        refine kk_iload_n 3 rfl e_X4_placeLacking_42 ?_
        exact kk_iret e_X4_placeLacking_43 ⟨rfl, h⟩
    · intro J_3 hJ_3 h
      refine kk_if_le e_X4_placeLacking_11 (fun c_8 => ?_) (fun c_8 => ?_)
      · replace h := h.1 c_8
        exact kk_sub [0, 1, 2, 3] rfl (hJ_3 h)
      · replace h := h.2 c_8
        refine kk_aload_n 0 rfl e_X4_placeLacking_14 ?_
        refine kk_iload_n 1 rfl e_X4_placeLacking_15 ?_
        refine kk_iload_n 3 rfl e_X4_placeLacking_16 ?_
        refine kk_callVip (As := [.int v1, .int v3_1]) (rest := []) e_X4_placeLacking_17 ml_X4_46 ⟨_, _, _, _, rfl, rfl⟩ rfl (kk_fitR (by decide) (by decide)) (Nat.le_of_ble_eq_true rfl) rfl (s_X4_follows Z v1 v3_1 σ _ h) (fun r_6 h => ?_)
        refine kk_if_ne e_X4_placeLacking_20 (fun c_7 => ?_) (fun c_7 => ?_)
        · replace h := h.1 c_7
          exact kk_sub [0, 1, 2, 3] rfl (hJ_3 h)
        · replace h := h.2 c_7
          refine kk_iconst ic_m1 e_X4_placeLacking_23 ?_
          exact kk_iret e_X4_placeLacking_24 ⟨rfl, h⟩
theorem e_X4_shift_0 : kk_d cX4_shift 0 (.aload_n 0) 1 1 := ⟨by decide +kernel, rfl⟩
theorem e_X4_shift_1 : kk_d cX4_shift 1 (.getfield 19) 3 4 := ⟨by decide +kernel, rfl⟩
theorem e_X4_shift_4 : kk_d cX4_shift 4 (.iload_n 1) 1 5 := ⟨by decide +kernel, rfl⟩
theorem e_X4_shift_5 : kk_d cX4_shift 5 (.aload_n 0) 1 6 := ⟨by decide +kernel, rfl⟩
theorem e_X4_shift_6 : kk_d cX4_shift 6 (.getfield 9) 3 9 := ⟨by decide +kernel, rfl⟩
theorem e_X4_shift_9 : kk_d cX4_shift 9 (.iconst 0) 1 10 := ⟨by decide +kernel, rfl⟩
theorem e_X4_shift_10 : kk_d cX4_shift 10 .iaload 1 11 := ⟨by decide +kernel, rfl⟩
theorem e_X4_shift_11 : kk_d cX4_shift 11 (.invokevirtual 53) 3 14 := ⟨by decide +kernel, rfl⟩
theorem e_X4_shift_14 : kk_d cX4_shift 14 (.istore 4) 2 16 := ⟨by decide +kernel, rfl⟩
theorem e_X4_shift_16 : kk_d cX4_shift 16 (.iconst 1) 1 17 := ⟨by decide +kernel, rfl⟩
theorem e_X4_shift_17 : kk_d cX4_shift 17 (.istore 5) 2 19 := ⟨by decide +kernel, rfl⟩
theorem e_X4_shift_110 : kk_d cX4_shift 110 (.iload 4) 2 112 := ⟨by decide +kernel, rfl⟩
theorem e_X4_shift_112 : kk_d cX4_shift 112 (.iconst (-1)) 1 113 := ⟨by decide +kernel, rfl⟩
theorem e_X4_shift_113 : kk_dj cX4_shift 113 (.if_icmp .eq 13) 3 (13) 116 126 := ⟨by decide +kernel, rfl, by decide⟩
theorem e_X4_shift_126 : kk_d cX4_shift 126 .return_ 1 127 := ⟨by decide +kernel, rfl⟩
theorem e_X4_shift_116 : kk_d cX4_shift 116 (.aload_n 0) 1 117 := ⟨by decide +kernel, rfl⟩
theorem e_X4_shift_117 : kk_d cX4_shift 117 (.getfield 23) 3 120 := ⟨by decide +kernel, rfl⟩
theorem e_X4_shift_120 : kk_d cX4_shift 120 (.iload 4) 2 122 := ⟨by decide +kernel, rfl⟩
theorem e_X4_shift_122 : kk_d cX4_shift 122 (.iload_n 3) 1 123 := ⟨by decide +kernel, rfl⟩
theorem e_X4_shift_123 : kk_d cX4_shift 123 (.invokevirtual 63) 3 126 := ⟨by decide +kernel, rfl⟩
theorem e_X4_shift_19 : kk_d cX4_shift 19 (.iload 5) 2 21 := ⟨by decide +kernel, rfl⟩
theorem e_X4_shift_21 : kk_d cX4_shift 21 (.iload_n 2) 1 22 := ⟨by decide +kernel, rfl⟩
theorem e_X4_shift_22 : kk_dj cX4_shift 22 (.if_icmp .gt 88) 3 (88) 25 110 := ⟨by decide +kernel, rfl, by decide⟩
theorem e_X4_shift_25 : kk_d cX4_shift 25 (.iload 4) 2 27 := ⟨by decide +kernel, rfl⟩
theorem e_X4_shift_27 : kk_d cX4_shift 27 (.iconst (-1)) 1 28 := ⟨by decide +kernel, rfl⟩
theorem e_X4_shift_28 : kk_dj cX4_shift 28 (.if_icmp .eq 82) 3 (82) 31 110 := ⟨by decide +kernel, rfl, by decide⟩
theorem e_X4_shift_31 : kk_d cX4_shift 31 (.aload_n 0) 1 32 := ⟨by decide +kernel, rfl⟩
theorem e_X4_shift_32 : kk_d cX4_shift 32 (.getfield 19) 3 35 := ⟨by decide +kernel, rfl⟩
theorem e_X4_shift_35 : kk_d cX4_shift 35 (.iload_n 1) 1 36 := ⟨by decide +kernel, rfl⟩
theorem e_X4_shift_36 : kk_d cX4_shift 36 (.aload_n 0) 1 37 := ⟨by decide +kernel, rfl⟩
theorem e_X4_shift_37 : kk_d cX4_shift 37 (.getfield 9) 3 40 := ⟨by decide +kernel, rfl⟩
theorem e_X4_shift_40 : kk_d cX4_shift 40 (.iload 5) 2 42 := ⟨by decide +kernel, rfl⟩
theorem e_X4_shift_42 : kk_d cX4_shift 42 .iaload 1 43 := ⟨by decide +kernel, rfl⟩
theorem e_X4_shift_43 : kk_d cX4_shift 43 (.invokevirtual 53) 3 46 := ⟨by decide +kernel, rfl⟩
theorem e_X4_shift_46 : kk_d cX4_shift 46 (.istore 6) 2 48 := ⟨by decide +kernel, rfl⟩
theorem e_X4_shift_48 : kk_d cX4_shift 48 (.iload 6) 2 50 := ⟨by decide +kernel, rfl⟩
theorem e_X4_shift_50 : kk_d cX4_shift 50 (.iconst (-1)) 1 51 := ⟨by decide +kernel, rfl⟩
theorem e_X4_shift_51 : kk_dj cX4_shift 51 (.if_icmp .eq 49) 3 (49) 54 100 := ⟨by decide +kernel, rfl, by decide⟩
theorem e_X4_shift_100 : kk_d cX4_shift 100 (.iload 6) 2 102 := ⟨by decide +kernel, rfl⟩
theorem e_X4_shift_102 : kk_d cX4_shift 102 (.istore 4) 2 104 := ⟨by decide +kernel, rfl⟩
theorem e_X4_shift_104 : kk_d cX4_shift 104 (.iinc 5 1) 3 107 := ⟨by decide +kernel, rfl⟩
theorem e_X4_shift_107 : kk_dj cX4_shift 107 (.goto (-88)) 3 (-88) 110 19 := ⟨by decide +kernel, rfl, by decide⟩
theorem e_X4_shift_54 : kk_d cX4_shift 54 (.aload_n 0) 1 55 := ⟨by decide +kernel, rfl⟩
theorem e_X4_shift_55 : kk_d cX4_shift 55 (.getfield 23) 3 58 := ⟨by decide +kernel, rfl⟩
theorem e_X4_shift_58 : kk_d cX4_shift 58 (.getfield 56) 3 61 := ⟨by decide +kernel, rfl⟩
theorem e_X4_shift_61 : kk_d cX4_shift 61 (.iload 6) 2 63 := ⟨by decide +kernel, rfl⟩
theorem e_X4_shift_63 : kk_d cX4_shift 63 .iaload 1 64 := ⟨by decide +kernel, rfl⟩
theorem e_X4_shift_64 : kk_d cX4_shift 64 (.iconst (-1)) 1 65 := ⟨by decide +kernel, rfl⟩
theorem e_X4_shift_65 : kk_dj cX4_shift 65 (.if_icmp .eq 35) 3 (35) 68 100 := ⟨by decide +kernel, rfl, by decide⟩
theorem e_X4_shift_68 : kk_d cX4_shift 68 (.aload_n 0) 1 69 := ⟨by decide +kernel, rfl⟩
theorem e_X4_shift_69 : kk_d cX4_shift 69 (.getfield 23) 3 72 := ⟨by decide +kernel, rfl⟩
theorem e_X4_shift_72 : kk_d cX4_shift 72 (.getfield 56) 3 75 := ⟨by decide +kernel, rfl⟩
theorem e_X4_shift_75 : kk_d cX4_shift 75 (.iload 6) 2 77 := ⟨by decide +kernel, rfl⟩
theorem e_X4_shift_77 : kk_d cX4_shift 77 .iaload 1 78 := ⟨by decide +kernel, rfl⟩
theorem e_X4_shift_78 : kk_d cX4_shift 78 (.istore 7) 2 80 := ⟨by decide +kernel, rfl⟩
theorem e_X4_shift_80 : kk_d cX4_shift 80 (.aload_n 0) 1 81 := ⟨by decide +kernel, rfl⟩
theorem e_X4_shift_81 : kk_d cX4_shift 81 (.getfield 23) 3 84 := ⟨by decide +kernel, rfl⟩
theorem e_X4_shift_84 : kk_d cX4_shift 84 (.iload 6) 2 86 := ⟨by decide +kernel, rfl⟩
theorem e_X4_shift_86 : kk_d cX4_shift 86 (.invokevirtual 59) 3 89 := ⟨by decide +kernel, rfl⟩
theorem e_X4_shift_89 : kk_d cX4_shift 89 (.aload_n 0) 1 90 := ⟨by decide +kernel, rfl⟩
theorem e_X4_shift_90 : kk_d cX4_shift 90 (.getfield 23) 3 93 := ⟨by decide +kernel, rfl⟩
theorem e_X4_shift_93 : kk_d cX4_shift 93 (.iload 4) 2 95 := ⟨by decide +kernel, rfl⟩
theorem e_X4_shift_95 : kk_d cX4_shift 95 (.iload 7) 2 97 := ⟨by decide +kernel, rfl⟩
theorem e_X4_shift_97 : kk_d cX4_shift 97 (.invokevirtual 63) 3 100 := ⟨by decide +kernel, rfl⟩
set_option maxRecDepth 4000 in
theorem s_X4_shift (Z : kk_Z) (v1 : Int32) (v2 : Int32) (v3 : Int32) (σ : kk_St) (Q : kk_St → Prop) (h : f_X4_shift v1 v2 v3 σ Q) : kk_M Z sh_C yX4_shift cX4_shift 8 none (kk_R 4) [.ref (Z.2.1 3), .int v1, .int v2, .int v3] σ (kk_Qv Z sh_C Q) := by
  unfold f_X4_shift at h
  refine kk_met (own := RX4) (by decide) rfl (Nat.le_of_ble_eq_true rfl) rfl ?_
  refine kk_aload_n 0 rfl e_X4_shift_0 ?_
  refine kk_getr e_X4_shift_1 fl_X4_19 rfl rfl ?_
  refine kk_iload_n 1 rfl e_X4_shift_4 ?_
  refine kk_aload_n 0 rfl e_X4_shift_5 ?_
  refine kk_getr e_X4_shift_6 fl_X4_9 rfl rfl ?_
  refine kk_iconst ic_0 e_X4_shift_9 ?_
  refine kk_iald e_X4_shift_10 rfl h.1 ?_
  replace h := h.2
  refine kk_callVip (As := [.int v1, .int (kk_rd σ 18 (0 : Int32))]) (rest := []) e_X4_shift_11 ml_X4_53 ⟨_, _, _, _, rfl, rfl⟩ rfl (kk_fitR (by decide) (by decide)) (Nat.le_of_ble_eq_true rfl) rfl (s_X6_lineBetween Z v1 (kk_rd σ 18 (0 : Int32)) σ _ h) (fun r_1 h => ?_)
  refine kk_istore (lv' := [(4, .int r_1), (0, .ref (Z.2.1 3)), (1, .int v1), (2, .int v2), (3, .int v3)]) e_X4_shift_14 (by decide) rfl ?_
  refine kk_iconst ic_1 e_X4_shift_16 ?_
  refine kk_istore (lv' := [(5, .int (1 : Int32)), (4, .int r_1), (0, .ref (Z.2.1 3)), (1, .int v1), (2, .int v2), (3, .int v3)]) e_X4_shift_17 (by decide) rfl ?_
  refine kk_jW2 (P := fun (v4_2 : Int32) (σ_3 : kk_St) => KK Z sh_C RX4 cX4_shift 8 none (kk_R 4) (kk_Qv Z sh_C Q) 110 [(0, .ref (Z.2.1 3)), (3, .int v3), (4, .int v4_2)] [] σ_3) h ?_ ?_
  · intro v4_2 σ_3 h
    refine kk_iload 2 rfl e_X4_shift_110 ?_
    refine kk_iconst ic_m1 e_X4_shift_112 ?_
    refine kk_jW1 (P := fun (σ_5 : kk_St) => KK Z sh_C RX4 cX4_shift 8 none (kk_R 4) (kk_Qv Z sh_C Q) 126 [] [] σ_5) h ?_ ?_
    · intro σ_5 h
      exact kk_vret e_X4_shift_126 h
    · intro J_6 hJ_6 h
      refine kk_icmp_eq e_X4_shift_113 (fun c_8 => ?_) (fun c_8 => ?_)
      · replace h := h.1 c_8
        exact kk_sub [] rfl (hJ_6 σ_3 h)
      · replace h := h.2 c_8
        refine kk_aload_n 0 rfl e_X4_shift_116 ?_
        refine kk_getr e_X4_shift_117 fl_X4_23 rfl rfl ?_
        refine kk_iload 2 rfl e_X4_shift_120 ?_
        refine kk_iload_n 1 rfl e_X4_shift_122 ?_
        refine kk_callVv (As := [.int v4_2, .int v3]) (rest := []) e_X4_shift_123 ml_X4_63 ⟨_, _, _, _, rfl, rfl⟩ rfl (kk_fitR (by decide) (by decide)) (Nat.le_of_ble_eq_true rfl) rfl (s_X3_give Z v4_2 v3 σ_3 _ h) (fun σ_7 h => ?_)
        exact kk_sub [] rfl (hJ_6 σ_7 h)
  · intro J_4 hJ_4 h
    refine kk_sub [2, 3, 4, 5, 1, 0] rfl ?_
    refine kk_lpW3 (P := fun (v4_9 : Int32) (v5_10 : Int32) (σ_11 : kk_St) => KK Z sh_C RX4 cX4_shift 8 none (kk_R 4) (kk_Qv Z sh_C Q) 19 [(0, .ref (Z.2.1 3)), (1, .int v1), (2, .int v2), (3, .int v3), (4, .int v4_9), (5, .int v5_10)] [] σ_11) ?_ h
    intro rec_12 hrec_12 v4_9 v5_10 σ_11 h
    refine kk_iload 5 rfl e_X4_shift_19 ?_
    refine kk_iload_n 2 rfl e_X4_shift_21 ?_
    refine kk_icmp_gt e_X4_shift_22 (fun c_21 => ?_) (fun c_21 => ?_)
    · replace h := h.1 c_21
      exact kk_sub [0, 3, 4] rfl (hJ_4 v4_9 σ_11 h)
    · replace h := h.2 c_21
      refine kk_iload 4 rfl e_X4_shift_25 ?_
      refine kk_iconst ic_m1 e_X4_shift_27 ?_
      refine kk_icmp_eq e_X4_shift_28 (fun c_20 => ?_) (fun c_20 => ?_)
      · replace h := h.1 c_20
        exact kk_sub [0, 3, 4] rfl (hJ_4 v4_9 σ_11 h)
      · replace h := h.2 c_20
        refine kk_aload_n 0 rfl e_X4_shift_31 ?_
        refine kk_getr e_X4_shift_32 fl_X4_19 rfl rfl ?_
        refine kk_iload_n 1 rfl e_X4_shift_35 ?_
        refine kk_aload_n 0 rfl e_X4_shift_36 ?_
        refine kk_getr e_X4_shift_37 fl_X4_9 rfl rfl ?_
        refine kk_iload 5 rfl e_X4_shift_40 ?_
        refine kk_iald e_X4_shift_42 rfl h.1 ?_
        replace h := h.2
        refine kk_callVip (As := [.int v1, .int (kk_rd σ_11 18 v5_10)]) (rest := []) e_X4_shift_43 ml_X4_53 ⟨_, _, _, _, rfl, rfl⟩ rfl (kk_fitR (by decide) (by decide)) (Nat.le_of_ble_eq_true rfl) rfl (s_X6_lineBetween Z v1 (kk_rd σ_11 18 v5_10) σ_11 _ h) (fun r_13 h => ?_)
        refine kk_istore (lv' := [(6, .int r_13), (0, .ref (Z.2.1 3)), (1, .int v1), (2, .int v2), (3, .int v3), (4, .int v4_9), (5, .int v5_10)]) e_X4_shift_46 (by decide) rfl ?_
        refine kk_iload 0 rfl e_X4_shift_48 ?_
        refine kk_iconst ic_m1 e_X4_shift_50 ?_
        refine kk_jW1 (P := fun (σ_14 : kk_St) => KK Z sh_C RX4 cX4_shift 8 none (kk_R 4) (kk_Qv Z sh_C Q) 100 [(0, .ref (Z.2.1 3)), (1, .int v1), (2, .int v2), (3, .int v3), (5, .int v5_10), (6, .int r_13)] [] σ_14) h ?_ ?_
        · intro σ_14 h
          refine kk_iload 5 rfl e_X4_shift_100 ?_
          refine kk_istore (lv' := [(4, .int r_13), (0, .ref (Z.2.1 3)), (1, .int v1), (2, .int v2), (3, .int v3), (5, .int v5_10), (6, .int r_13)]) e_X4_shift_102 (by decide) rfl ?_
          refine kk_iinc (lv' := [(5, .int (v5_10 + (1 : Int32))), (4, .int r_13), (0, .ref (Z.2.1 3)), (1, .int v1), (2, .int v2), (3, .int v3), (6, .int r_13)]) e_X4_shift_104 (j := 5) rfl (ii_1 v5_10) (by decide) rfl ?_
          refine kk_goto e_X4_shift_107 ?_
          exact kk_sub [2, 3, 4, 5, 1, 0] rfl (hrec_12 r_13 (v5_10 + (1 : Int32)) σ_14 h)
        · intro J_15 hJ_15 h
          refine kk_icmp_eq e_X4_shift_51 (fun c_19 => ?_) (fun c_19 => ?_)
          · replace h := h.1 c_19
            exact kk_sub [1, 2, 3, 4, 6, 0] rfl (hJ_15 σ_11 h)
          · replace h := h.2 c_19
            refine kk_aload_n 1 rfl e_X4_shift_54 ?_
            refine kk_getr e_X4_shift_55 fl_X4_23 rfl rfl ?_
            refine kk_getr e_X4_shift_58 fl_X4_56 rfl rfl ?_
            refine kk_iload 0 rfl e_X4_shift_61 ?_
            refine kk_iald e_X4_shift_63 rfl h.1 ?_
            replace h := h.2
            refine kk_iconst ic_m1 e_X4_shift_64 ?_
            refine kk_icmp_eq e_X4_shift_65 (fun c_18 => ?_) (fun c_18 => ?_)
            · replace h := h.1 c_18
              exact kk_sub [1, 2, 3, 4, 6, 0] rfl (hJ_15 σ_11 h)
            · replace h := h.2 c_18
              refine kk_aload_n 1 rfl e_X4_shift_68 ?_
              refine kk_getr e_X4_shift_69 fl_X4_23 rfl rfl ?_
              refine kk_getr e_X4_shift_72 fl_X4_56 rfl rfl ?_
              refine kk_iload 0 rfl e_X4_shift_75 ?_
              refine kk_iald e_X4_shift_77 rfl h.1 ?_
              replace h := h.2
              refine kk_istore (lv' := [(7, .int (kk_rd σ_11 16 r_13)), (6, .int r_13), (0, .ref (Z.2.1 3)), (1, .int v1), (2, .int v2), (3, .int v3), (4, .int v4_9), (5, .int v5_10)]) e_X4_shift_78 (by decide) rfl ?_
              refine kk_aload_n 2 rfl e_X4_shift_80 ?_
              refine kk_getr e_X4_shift_81 fl_X4_23 rfl rfl ?_
              refine kk_iload 1 rfl e_X4_shift_84 ?_
              refine kk_callVv (As := [.int r_13]) (rest := []) e_X4_shift_86 ml_X4_59 ⟨_, _, _, _, rfl, rfl⟩ rfl (kk_fitR (by decide) (by decide)) (Nat.le_of_ble_eq_true rfl) rfl (s_X3_strip Z r_13 σ_11 _ h) (fun σ_16 h => ?_)
              refine kk_aload_n 2 rfl e_X4_shift_89 ?_
              refine kk_getr e_X4_shift_90 fl_X4_23 rfl rfl ?_
              refine kk_iload 6 rfl e_X4_shift_93 ?_
              refine kk_iload 0 rfl e_X4_shift_95 ?_
              refine kk_callVv (As := [.int v4_9, .int (kk_rd σ_11 16 r_13)]) (rest := []) e_X4_shift_97 ml_X4_63 ⟨_, _, _, _, rfl, rfl⟩ rfl (kk_fitR (by decide) (by decide)) (Nat.le_of_ble_eq_true rfl) rfl (s_X3_give Z v4_9 (kk_rd σ_11 16 r_13) σ_16 _ h) (fun σ_17 h => ?_)
              exact kk_sub [2, 3, 4, 5, 7, 1] rfl (hJ_15 σ_17 h)
theorem e_X5_raise_0 : kk_d cX5_raise 0 (.aload_n 0) 1 1 := ⟨by decide +kernel, rfl⟩
theorem e_X5_raise_1 : kk_d cX5_raise 1 (.getfield 19) 3 4 := ⟨by decide +kernel, rfl⟩
theorem e_X5_raise_4 : kk_d cX5_raise 4 (.getfield 31) 3 7 := ⟨by decide +kernel, rfl⟩
theorem e_X5_raise_7 : kk_d cX5_raise 7 (.iload_n 1) 1 8 := ⟨by decide +kernel, rfl⟩
theorem e_X5_raise_8 : kk_d cX5_raise 8 .iaload 1 9 := ⟨by decide +kernel, rfl⟩
theorem e_X5_raise_9 : kk_d cX5_raise 9 (.istore_n 2) 1 10 := ⟨by decide +kernel, rfl⟩
theorem e_X5_raise_10 : kk_d cX5_raise 10 (.aload_n 0) 1 11 := ⟨by decide +kernel, rfl⟩
theorem e_X5_raise_11 : kk_d cX5_raise 11 (.getfield 27) 3 14 := ⟨by decide +kernel, rfl⟩
theorem e_X5_raise_14 : kk_d cX5_raise 14 (.iload_n 1) 1 15 := ⟨by decide +kernel, rfl⟩
theorem e_X5_raise_15 : kk_d cX5_raise 15 (.iload_n 2) 1 16 := ⟨by decide +kernel, rfl⟩
theorem e_X5_raise_16 : kk_d cX5_raise 16 (.invokevirtual 36) 3 19 := ⟨by decide +kernel, rfl⟩
theorem e_X5_raise_19 : kk_d cX5_raise 19 (.aload_n 0) 1 20 := ⟨by decide +kernel, rfl⟩
theorem e_X5_raise_20 : kk_d cX5_raise 20 (.getfield 23) 3 23 := ⟨by decide +kernel, rfl⟩
theorem e_X5_raise_23 : kk_d cX5_raise 23 (.iload_n 2) 1 24 := ⟨by decide +kernel, rfl⟩
theorem e_X5_raise_24 : kk_d cX5_raise 24 (.invokevirtual 42) 3 27 := ⟨by decide +kernel, rfl⟩
theorem e_X5_raise_27 : kk_d cX5_raise 27 (.istore_n 3) 1 28 := ⟨by decide +kernel, rfl⟩
theorem e_X5_raise_28 : kk_d cX5_raise 28 (.aload_n 0) 1 29 := ⟨by decide +kernel, rfl⟩
theorem e_X5_raise_29 : kk_d cX5_raise 29 (.getfield 23) 3 32 := ⟨by decide +kernel, rfl⟩
theorem e_X5_raise_32 : kk_d cX5_raise 32 (.aload_n 0) 1 33 := ⟨by decide +kernel, rfl⟩
theorem e_X5_raise_33 : kk_d cX5_raise 33 (.getfield 27) 3 36 := ⟨by decide +kernel, rfl⟩
theorem e_X5_raise_36 : kk_d cX5_raise 36 (.getfield 48) 3 39 := ⟨by decide +kernel, rfl⟩
theorem e_X5_raise_39 : kk_d cX5_raise 39 (.aload_n 0) 1 40 := ⟨by decide +kernel, rfl⟩
theorem e_X5_raise_40 : kk_d cX5_raise 40 (.getfield 27) 3 43 := ⟨by decide +kernel, rfl⟩
theorem e_X5_raise_43 : kk_d cX5_raise 43 (.getfield 51) 3 46 := ⟨by decide +kernel, rfl⟩
theorem e_X5_raise_46 : kk_d cX5_raise 46 (.iconst 1) 1 47 := ⟨by decide +kernel, rfl⟩
theorem e_X5_raise_47 : kk_d cX5_raise 47 .isub 1 48 := ⟨by decide +kernel, rfl⟩
theorem e_X5_raise_48 : kk_d cX5_raise 48 .iaload 1 49 := ⟨by decide +kernel, rfl⟩
theorem e_X5_raise_49 : kk_d cX5_raise 49 (.invokevirtual 42) 3 52 := ⟨by decide +kernel, rfl⟩
theorem e_X5_raise_52 : kk_d cX5_raise 52 (.istore 4) 2 54 := ⟨by decide +kernel, rfl⟩
theorem e_X5_raise_54 : kk_d cX5_raise 54 (.iconst 0) 1 55 := ⟨by decide +kernel, rfl⟩
theorem e_X5_raise_55 : kk_d cX5_raise 55 (.istore 5) 2 57 := ⟨by decide +kernel, rfl⟩
theorem e_X5_raise_57 : kk_d cX5_raise 57 (.aload_n 0) 1 58 := ⟨by decide +kernel, rfl⟩
theorem e_X5_raise_58 : kk_d cX5_raise 58 (.getfield 23) 3 61 := ⟨by decide +kernel, rfl⟩
theorem e_X5_raise_61 : kk_d cX5_raise 61 (.iload_n 2) 1 62 := ⟨by decide +kernel, rfl⟩
theorem e_X5_raise_62 : kk_d cX5_raise 62 (.iload 4) 2 64 := ⟨by decide +kernel, rfl⟩
theorem e_X5_raise_64 : kk_d cX5_raise 64 (.invokevirtual 55) 3 67 := ⟨by decide +kernel, rfl⟩
theorem e_X5_raise_67 : kk_dj cX5_raise 67 (.ifCond .ne 35) 3 (35) 70 102 := ⟨by decide +kernel, rfl, by decide⟩
theorem e_X5_raise_102 : kk_d cX5_raise 102 (.aload_n 0) 1 103 := ⟨by decide +kernel, rfl⟩
theorem e_X5_raise_103 : kk_d cX5_raise 103 (.getfield 27) 3 106 := ⟨by decide +kernel, rfl⟩
theorem e_X5_raise_106 : kk_d cX5_raise 106 (.iload_n 2) 1 107 := ⟨by decide +kernel, rfl⟩
theorem e_X5_raise_107 : kk_d cX5_raise 107 (.iload 4) 2 109 := ⟨by decide +kernel, rfl⟩
theorem e_X5_raise_109 : kk_d cX5_raise 109 (.invokevirtual 72) 3 112 := ⟨by decide +kernel, rfl⟩
theorem e_X5_raise_112 : kk_d cX5_raise 112 (.istore 6) 2 114 := ⟨by decide +kernel, rfl⟩
theorem e_X5_raise_114 : kk_d cX5_raise 114 (.iload 6) 2 116 := ⟨by decide +kernel, rfl⟩
theorem e_X5_raise_116 : kk_d cX5_raise 116 (.iconst (-1)) 1 117 := ⟨by decide +kernel, rfl⟩
theorem e_X5_raise_117 : kk_dj cX5_raise 117 (.if_icmp .eq 15) 3 (15) 120 132 := ⟨by decide +kernel, rfl, by decide⟩
theorem e_X5_raise_132 : kk_d cX5_raise 132 (.aload_n 0) 1 133 := ⟨by decide +kernel, rfl⟩
theorem e_X5_raise_133 : kk_d cX5_raise 133 (.getfield 9) 3 136 := ⟨by decide +kernel, rfl⟩
theorem e_X5_raise_136 : kk_d cX5_raise 136 (.iconst 0) 1 137 := ⟨by decide +kernel, rfl⟩
theorem e_X5_raise_137 : kk_d cX5_raise 137 (.iload_n 3) 1 138 := ⟨by decide +kernel, rfl⟩
theorem e_X5_raise_138 : kk_d cX5_raise 138 .iastore 1 139 := ⟨by decide +kernel, rfl⟩
theorem e_X5_raise_139 : kk_d cX5_raise 139 (.aload_n 0) 1 140 := ⟨by decide +kernel, rfl⟩
theorem e_X5_raise_140 : kk_d cX5_raise 140 (.getfield 9) 3 143 := ⟨by decide +kernel, rfl⟩
theorem e_X5_raise_143 : kk_d cX5_raise 143 (.iconst 1) 1 144 := ⟨by decide +kernel, rfl⟩
theorem e_X5_raise_144 : kk_d cX5_raise 144 (.iload 4) 2 146 := ⟨by decide +kernel, rfl⟩
theorem e_X5_raise_146 : kk_d cX5_raise 146 .iastore 1 147 := ⟨by decide +kernel, rfl⟩
theorem e_X5_raise_147 : kk_d cX5_raise 147 (.aload_n 0) 1 148 := ⟨by decide +kernel, rfl⟩
theorem e_X5_raise_148 : kk_d cX5_raise 148 (.getfield 9) 3 151 := ⟨by decide +kernel, rfl⟩
theorem e_X5_raise_151 : kk_d cX5_raise 151 (.iconst 2) 1 152 := ⟨by decide +kernel, rfl⟩
theorem e_X5_raise_152 : kk_d cX5_raise 152 (.aload_n 0) 1 153 := ⟨by decide +kernel, rfl⟩
theorem e_X5_raise_153 : kk_d cX5_raise 153 (.getfield 27) 3 156 := ⟨by decide +kernel, rfl⟩
theorem e_X5_raise_156 : kk_d cX5_raise 156 (.getfield 51) 3 159 := ⟨by decide +kernel, rfl⟩
theorem e_X5_raise_159 : kk_d cX5_raise 159 .iastore 1 160 := ⟨by decide +kernel, rfl⟩
theorem e_X5_raise_160 : kk_d cX5_raise 160 (.aload_n 0) 1 161 := ⟨by decide +kernel, rfl⟩
theorem e_X5_raise_161 : kk_d cX5_raise 161 (.getfield 9) 3 164 := ⟨by decide +kernel, rfl⟩
theorem e_X5_raise_164 : kk_d cX5_raise 164 (.iconst 3) 1 165 := ⟨by decide +kernel, rfl⟩
theorem e_X5_raise_165 : kk_d cX5_raise 165 (.iload 6) 2 167 := ⟨by decide +kernel, rfl⟩
theorem e_X5_raise_167 : kk_d cX5_raise 167 .iastore 1 168 := ⟨by decide +kernel, rfl⟩
theorem e_X5_raise_168 : kk_d cX5_raise 168 (.aload_n 0) 1 169 := ⟨by decide +kernel, rfl⟩
theorem e_X5_raise_169 : kk_d cX5_raise 169 (.getfield 9) 3 172 := ⟨by decide +kernel, rfl⟩
theorem e_X5_raise_172 : kk_d cX5_raise 172 (.iconst 4) 1 173 := ⟨by decide +kernel, rfl⟩
theorem e_X5_raise_173 : kk_d cX5_raise 173 (.iload 5) 2 175 := ⟨by decide +kernel, rfl⟩
theorem e_X5_raise_175 : kk_d cX5_raise 175 .iastore 1 176 := ⟨by decide +kernel, rfl⟩
theorem e_X5_raise_176 : kk_d cX5_raise 176 (.aload_n 0) 1 177 := ⟨by decide +kernel, rfl⟩
theorem e_X5_raise_177 : kk_d cX5_raise 177 (.iconst 1) 1 178 := ⟨by decide +kernel, rfl⟩
theorem e_X5_raise_178 : kk_d cX5_raise 178 (.putfield 15) 3 181 := ⟨by decide +kernel, rfl⟩
theorem e_X5_raise_181 : kk_d cX5_raise 181 .return_ 1 182 := ⟨by decide +kernel, rfl⟩
theorem e_X5_raise_120 : kk_d cX5_raise 120 (.aload_n 0) 1 121 := ⟨by decide +kernel, rfl⟩
theorem e_X5_raise_121 : kk_d cX5_raise 121 (.getfield 27) 3 124 := ⟨by decide +kernel, rfl⟩
theorem e_X5_raise_124 : kk_d cX5_raise 124 (.iload_n 2) 1 125 := ⟨by decide +kernel, rfl⟩
theorem e_X5_raise_125 : kk_d cX5_raise 125 (.iload 6) 2 127 := ⟨by decide +kernel, rfl⟩
theorem e_X5_raise_127 : kk_d cX5_raise 127 (.iload 4) 2 129 := ⟨by decide +kernel, rfl⟩
theorem e_X5_raise_129 : kk_d cX5_raise 129 (.invokevirtual 76) 3 132 := ⟨by decide +kernel, rfl⟩
theorem e_X5_raise_70 : kk_d cX5_raise 70 (.aload_n 0) 1 71 := ⟨by decide +kernel, rfl⟩
theorem e_X5_raise_71 : kk_d cX5_raise 71 (.getfield 23) 3 74 := ⟨by decide +kernel, rfl⟩
theorem e_X5_raise_74 : kk_d cX5_raise 74 (.iload_n 2) 1 75 := ⟨by decide +kernel, rfl⟩
theorem e_X5_raise_75 : kk_d cX5_raise 75 (.iload_n 3) 1 76 := ⟨by decide +kernel, rfl⟩
theorem e_X5_raise_76 : kk_d cX5_raise 76 (.iload 4) 2 78 := ⟨by decide +kernel, rfl⟩
theorem e_X5_raise_78 : kk_d cX5_raise 78 (.invokevirtual 59) 3 81 := ⟨by decide +kernel, rfl⟩
theorem e_X5_raise_81 : kk_d cX5_raise 81 (.istore 6) 2 83 := ⟨by decide +kernel, rfl⟩
theorem e_X5_raise_83 : kk_d cX5_raise 83 (.aload_n 0) 1 84 := ⟨by decide +kernel, rfl⟩
theorem e_X5_raise_84 : kk_d cX5_raise 84 (.getfield 23) 3 87 := ⟨by decide +kernel, rfl⟩
theorem e_X5_raise_87 : kk_d cX5_raise 87 (.iload 6) 2 89 := ⟨by decide +kernel, rfl⟩
theorem e_X5_raise_89 : kk_d cX5_raise 89 (.iload_n 3) 1 90 := ⟨by decide +kernel, rfl⟩
theorem e_X5_raise_90 : kk_d cX5_raise 90 (.iload 4) 2 92 := ⟨by decide +kernel, rfl⟩
theorem e_X5_raise_92 : kk_d cX5_raise 92 (.invokevirtual 63) 3 95 := ⟨by decide +kernel, rfl⟩
theorem e_X5_raise_95 : kk_d cX5_raise 95 (.iload 6) 2 97 := ⟨by decide +kernel, rfl⟩
theorem e_X5_raise_97 : kk_d cX5_raise 97 (.invokestatic 67) 3 100 := ⟨by decide +kernel, rfl⟩
theorem e_X5_raise_100 : kk_d cX5_raise 100 (.istore 5) 2 102 := ⟨by decide +kernel, rfl⟩
set_option maxRecDepth 4000 in
theorem s_X5_raise (Z : kk_Z) (v1 : Int32) (σ : kk_St) (Q : kk_St → Prop) (h : f_X5_raise v1 σ Q) : kk_M Z sh_C yX5_raise cX5_raise 7 none (kk_R 7) [.ref (Z.2.1 4), .int v1] σ (kk_Qv Z sh_C Q) := by
  unfold f_X5_raise at h
  refine kk_met (own := RX5) (by decide) rfl (Nat.le_of_ble_eq_true rfl) rfl ?_
  refine kk_aload_n 0 rfl e_X5_raise_0 ?_
  refine kk_getr e_X5_raise_1 fl_X5_19 rfl rfl ?_
  refine kk_getr e_X5_raise_4 fl_X5_31 rfl rfl ?_
  refine kk_iload_n 1 rfl e_X5_raise_7 ?_
  refine kk_iald e_X5_raise_8 rfl h.1 ?_
  replace h := h.2
  refine kk_istore_n (lv' := [(2, .int (kk_rd σ 11 v1)), (0, .ref (Z.2.1 4)), (1, .int v1)]) e_X5_raise_9 rfl (by decide) rfl ?_
  refine kk_aload_n 1 rfl e_X5_raise_10 ?_
  refine kk_getr e_X5_raise_11 fl_X5_27 rfl rfl ?_
  refine kk_iload_n 2 rfl e_X5_raise_14 ?_
  refine kk_iload_n 0 rfl e_X5_raise_15 ?_
  refine kk_callVv (As := [.int v1, .int (kk_rd σ 11 v1)]) (rest := []) e_X5_raise_16 ml_X5_36 ⟨_, _, _, _, rfl, rfl⟩ rfl (kk_fitR (by decide) (by decide)) (Nat.le_of_ble_eq_true rfl) rfl (s_X4_lay Z v1 (kk_rd σ 11 v1) σ _ h) (fun σ_1 h => ?_)
  refine kk_aload_n 1 rfl e_X5_raise_19 ?_
  refine kk_getr e_X5_raise_20 fl_X5_23 rfl rfl ?_
  refine kk_iload_n 0 rfl e_X5_raise_23 ?_
  refine kk_callVip (As := [.int (kk_rd σ 11 v1)]) (rest := []) e_X5_raise_24 ml_X5_42 ⟨_, _, _, _, rfl, rfl⟩ rfl (kk_fitR (by decide) (by decide)) (Nat.le_of_ble_eq_true rfl) rfl (s_X3_leastFreeAt Z (kk_rd σ 11 v1) σ_1 _ h) (fun r_2 h => ?_)
  refine kk_istore_n (lv' := [(3, .int r_2), (2, .int (kk_rd σ 11 v1)), (0, .ref (Z.2.1 4)), (1, .int v1)]) e_X5_raise_27 rfl (by decide) rfl ?_
  refine kk_aload_n 2 rfl e_X5_raise_28 ?_
  refine kk_getr e_X5_raise_29 fl_X5_23 rfl rfl ?_
  refine kk_aload_n 2 rfl e_X5_raise_32 ?_
  refine kk_getr e_X5_raise_33 fl_X5_27 rfl rfl ?_
  refine kk_getr e_X5_raise_36 fl_X5_48 rfl rfl ?_
  refine kk_aload_n 2 rfl e_X5_raise_39 ?_
  refine kk_getr e_X5_raise_40 fl_X5_27 rfl rfl ?_
  refine kk_geti e_X5_raise_43 fl_X5_51 rfl rfl ?_
  refine kk_iconst ic_1 e_X5_raise_46 ?_
  refine kk_isub e_X5_raise_47 ?_
  refine kk_iald e_X5_raise_48 rfl h.1 ?_
  replace h := h.2
  refine kk_callVip (As := [.int (kk_rd σ_1 18 ((σ_1.1 3 3) - (1 : Int32)))]) (rest := []) e_X5_raise_49 ml_X5_42 ⟨_, _, _, _, rfl, rfl⟩ rfl (kk_fitR (by decide) (by decide)) (Nat.le_of_ble_eq_true rfl) rfl (s_X3_leastFreeAt Z (kk_rd σ_1 18 ((σ_1.1 3 3) - (1 : Int32))) σ_1 _ h) (fun r_3 h => ?_)
  refine kk_istore (lv' := [(4, .int r_3), (3, .int r_2), (2, .int (kk_rd σ 11 v1)), (0, .ref (Z.2.1 4)), (1, .int v1)]) e_X5_raise_52 (by decide) rfl ?_
  refine kk_iconst ic_0 e_X5_raise_54 ?_
  refine kk_istore (lv' := [(5, .int (0 : Int32)), (4, .int r_3), (3, .int r_2), (2, .int (kk_rd σ 11 v1)), (0, .ref (Z.2.1 4)), (1, .int v1)]) e_X5_raise_55 (by decide) rfl ?_
  refine kk_aload_n 4 rfl e_X5_raise_57 ?_
  refine kk_getr e_X5_raise_58 fl_X5_23 rfl rfl ?_
  refine kk_iload_n 3 rfl e_X5_raise_61 ?_
  refine kk_iload 1 rfl e_X5_raise_62 ?_
  refine kk_callVip (As := [.int (kk_rd σ 11 v1), .int r_3]) (rest := []) e_X5_raise_64 ml_X5_55 ⟨_, _, _, _, rfl, rfl⟩ rfl (kk_fitR (by decide) (by decide)) (Nat.le_of_ble_eq_true rfl) rfl (s_X3_isFreeAt Z (kk_rd σ 11 v1) r_3 σ_1 _ h) (fun r_4 h => ?_)
  refine kk_jW2 (P := fun (v5_5 : Int32) (σ_6 : kk_St) => KK Z sh_C RX5 cX5_raise 7 none (kk_R 7) (kk_Qv Z sh_C Q) 102 [(0, .ref (Z.2.1 4)), (2, .int (kk_rd σ 11 v1)), (3, .int r_2), (4, .int r_3), (5, .int v5_5)] [] σ_6) h ?_ ?_
  · intro v5_5 σ_6 h
    refine kk_aload_n 0 rfl e_X5_raise_102 ?_
    refine kk_getr e_X5_raise_103 fl_X5_27 rfl rfl ?_
    refine kk_iload_n 1 rfl e_X5_raise_106 ?_
    refine kk_iload 3 rfl e_X5_raise_107 ?_
    refine kk_callVip (As := [.int (kk_rd σ 11 v1), .int r_3]) (rest := []) e_X5_raise_109 ml_X5_72 ⟨_, _, _, _, rfl, rfl⟩ rfl (kk_fitR (by decide) (by decide)) (Nat.le_of_ble_eq_true rfl) rfl (s_X4_placeLacking Z (kk_rd σ 11 v1) r_3 σ_6 _ h) (fun r_8 h => ?_)
    refine kk_istore (lv' := [(6, .int r_8), (0, .ref (Z.2.1 4)), (2, .int (kk_rd σ 11 v1)), (3, .int r_2), (4, .int r_3), (5, .int v5_5)]) e_X5_raise_112 (by decide) rfl ?_
    refine kk_iload 0 rfl e_X5_raise_114 ?_
    refine kk_iconst ic_m1 e_X5_raise_116 ?_
    refine kk_jW1 (P := fun (σ_9 : kk_St) => KK Z sh_C RX5 cX5_raise 7 none (kk_R 7) (kk_Qv Z sh_C Q) 132 [(0, .ref (Z.2.1 4)), (3, .int r_2), (4, .int r_3), (5, .int v5_5), (6, .int r_8)] [] σ_9) h ?_ ?_
    · intro σ_9 h
      refine kk_aload_n 0 rfl e_X5_raise_132 ?_
      refine kk_getr e_X5_raise_133 fl_X5_9 rfl rfl ?_
      refine kk_iconst ic_0 e_X5_raise_136 ?_
      refine kk_iload_n 1 rfl e_X5_raise_137 ?_
      refine kk_iast e_X5_raise_138 rfl h.1 ?_
      replace h := h.2
      refine kk_tops (fun σ_11 eσ_11 => ?_)
      replace h := h σ_11 eσ_11
      refine kk_aload_n 0 rfl e_X5_raise_139 ?_
      refine kk_getr e_X5_raise_140 fl_X5_9 rfl rfl ?_
      refine kk_iconst ic_1 e_X5_raise_143 ?_
      refine kk_iload 2 rfl e_X5_raise_144 ?_
      refine kk_iast e_X5_raise_146 rfl h.1 ?_
      replace h := h.2
      refine kk_tops (fun σ_12 eσ_12 => ?_)
      replace h := h σ_12 eσ_12
      refine kk_aload_n 0 rfl e_X5_raise_147 ?_
      refine kk_getr e_X5_raise_148 fl_X5_9 rfl rfl ?_
      refine kk_iconst ic_2 e_X5_raise_151 ?_
      refine kk_aload_n 0 rfl e_X5_raise_152 ?_
      refine kk_getr e_X5_raise_153 fl_X5_27 rfl rfl ?_
      refine kk_geti e_X5_raise_156 fl_X5_51 rfl rfl ?_
      refine kk_iast e_X5_raise_159 rfl h.1 ?_
      replace h := h.2
      refine kk_tops (fun σ_13 eσ_13 => ?_)
      replace h := h σ_13 eσ_13
      refine kk_aload_n 0 rfl e_X5_raise_160 ?_
      refine kk_getr e_X5_raise_161 fl_X5_9 rfl rfl ?_
      refine kk_iconst ic_3 e_X5_raise_164 ?_
      refine kk_iload 4 rfl e_X5_raise_165 ?_
      refine kk_iast e_X5_raise_167 rfl h.1 ?_
      replace h := h.2
      refine kk_tops (fun σ_14 eσ_14 => ?_)
      replace h := h σ_14 eσ_14
      refine kk_aload_n 0 rfl e_X5_raise_168 ?_
      refine kk_getr e_X5_raise_169 fl_X5_9 rfl rfl ?_
      refine kk_iconst ic_4 e_X5_raise_172 ?_
      refine kk_iload 3 rfl e_X5_raise_173 ?_
      refine kk_iast e_X5_raise_175 rfl h.1 ?_
      replace h := h.2
      refine kk_tops (fun σ_15 eσ_15 => ?_)
      replace h := h σ_15 eσ_15
      refine kk_aload_n 0 rfl e_X5_raise_176 ?_
      refine kk_iconst ic_1 e_X5_raise_177 ?_
      refine kk_putz e_X5_raise_178 fl_X5_15 fn_X5_4 (Or.inr rfl) rfl rfl ?_
      refine kk_tops (fun σ_16 eσ_16 => ?_)
      replace h := h σ_16 eσ_16
      exact kk_vret e_X5_raise_181 h
    · intro J_10 hJ_10 h
      refine kk_icmp_eq e_X5_raise_117 (fun c_18 => ?_) (fun c_18 => ?_)
      · replace h := h.1 c_18
        exact kk_sub [1, 3, 4, 5, 0] rfl (hJ_10 σ_6 h)
      · replace h := h.2 c_18
        refine kk_aload_n 1 rfl e_X5_raise_120 ?_
        refine kk_getr e_X5_raise_121 fl_X5_27 rfl rfl ?_
        refine kk_iload_n 2 rfl e_X5_raise_124 ?_
        refine kk_iload 0 rfl e_X5_raise_125 ?_
        refine kk_iload 4 rfl e_X5_raise_127 ?_
        refine kk_callVv (As := [.int (kk_rd σ 11 v1), .int r_8, .int r_3]) (rest := []) e_X5_raise_129 ml_X5_76 ⟨_, _, _, _, rfl, rfl⟩ rfl (kk_fitR (by decide) (by decide)) (Nat.le_of_ble_eq_true rfl) rfl (s_X4_shift Z (kk_rd σ 11 v1) r_8 r_3 σ_6 _ h) (fun σ_17 h => ?_)
        exact kk_sub [1, 3, 4, 5, 0] rfl (hJ_10 σ_17 h)
  · intro J_7 hJ_7 h
    refine kk_if_ne e_X5_raise_67 (fun c_22 => ?_) (fun c_22 => ?_)
    · replace h := h.1 c_22
      exact kk_sub [4, 3, 2, 1, 0] rfl (hJ_7 (0 : Int32) σ_1 h)
    · replace h := h.2 c_22
      refine kk_aload_n 4 rfl e_X5_raise_70 ?_
      refine kk_getr e_X5_raise_71 fl_X5_23 rfl rfl ?_
      refine kk_iload_n 3 rfl e_X5_raise_74 ?_
      refine kk_iload_n 2 rfl e_X5_raise_75 ?_
      refine kk_iload 1 rfl e_X5_raise_76 ?_
      refine kk_callVip (As := [.int (kk_rd σ 11 v1), .int r_2, .int r_3]) (rest := []) e_X5_raise_78 ml_X5_59 ⟨_, _, _, _, rfl, rfl⟩ rfl (kk_fitR (by decide) (by decide)) (Nat.le_of_ble_eq_true rfl) rfl (s_X3_chainOf Z (kk_rd σ 11 v1) r_2 r_3 σ_1 _ h) (fun r_19 h => ?_)
      refine kk_istore (lv' := [(6, .int r_19), (5, .int (0 : Int32)), (4, .int r_3), (3, .int r_2), (2, .int (kk_rd σ 11 v1)), (0, .ref (Z.2.1 4)), (1, .int v1)]) e_X5_raise_81 (by decide) rfl ?_
      refine kk_aload_n 5 rfl e_X5_raise_83 ?_
      refine kk_getr e_X5_raise_84 fl_X5_23 rfl rfl ?_
      refine kk_iload 0 rfl e_X5_raise_87 ?_
      refine kk_iload_n 3 rfl e_X5_raise_89 ?_
      refine kk_iload 2 rfl e_X5_raise_90 ?_
      refine kk_callVv (As := [.int r_19, .int r_2, .int r_3]) (rest := []) e_X5_raise_92 ml_X5_63 ⟨_, _, _, _, rfl, rfl⟩ rfl (kk_fitR (by decide) (by decide)) (Nat.le_of_ble_eq_true rfl) rfl (s_X3_flip Z r_19 r_2 r_3 σ_1 _ h) (fun σ_20 h => ?_)
      refine kk_iload 0 rfl e_X5_raise_95 ?_
      refine kk_callSip (As := [.int r_19]) (rest := []) e_X5_raise_97 ml_X5_67 rfl (kk_fitR (by decide) (by decide)) (Nat.le_of_ble_eq_true rfl) rfl (s_J6_bitCount_0f7a4 Z r_19 σ_20 _ h) (fun r_21 h => ?_)
      refine kk_istore (lv' := [(5, .int r_21), (6, .int r_19), (4, .int r_3), (3, .int r_2), (2, .int (kk_rd σ 11 v1)), (0, .ref (Z.2.1 4)), (1, .int v1)]) e_X5_raise_100 (by decide) rfl ?_
      exact kk_sub [5, 4, 3, 2, 0] rfl (hJ_7 r_21 σ_20 h)
theorem e_X10_grow_0 : kk_d cX10_grow 0 (.aload_n 0) 1 1 := ⟨by decide +kernel, rfl⟩
theorem e_X10_grow_1 : kk_d cX10_grow 1 (.getfield 10) 3 4 := ⟨by decide +kernel, rfl⟩
theorem e_X10_grow_4 : kk_d cX10_grow 4 (.iload_n 1) 1 5 := ⟨by decide +kernel, rfl⟩
theorem e_X10_grow_5 : kk_d cX10_grow 5 (.invokevirtual 124) 3 8 := ⟨by decide +kernel, rfl⟩
theorem e_X10_grow_8 : kk_dj cX10_grow 8 (.ifCond .ne 5) 3 (5) 11 13 := ⟨by decide +kernel, rfl, by decide⟩
theorem e_X10_grow_13 : kk_d cX10_grow 13 (.aload_n 0) 1 14 := ⟨by decide +kernel, rfl⟩
theorem e_X10_grow_14 : kk_d cX10_grow 14 (.getfield 21) 3 17 := ⟨by decide +kernel, rfl⟩
theorem e_X10_grow_17 : kk_d cX10_grow 17 (.getfield 137) 3 20 := ⟨by decide +kernel, rfl⟩
theorem e_X10_grow_20 : kk_d cX10_grow 20 (.iload_n 1) 1 21 := ⟨by decide +kernel, rfl⟩
theorem e_X10_grow_21 : kk_d cX10_grow 21 .iaload 1 22 := ⟨by decide +kernel, rfl⟩
theorem e_X10_grow_22 : kk_d cX10_grow 22 (.iconst (-1)) 1 23 := ⟨by decide +kernel, rfl⟩
theorem e_X10_grow_23 : kk_dj cX10_grow 23 (.if_icmp .eq 6) 3 (6) 26 29 := ⟨by decide +kernel, rfl, by decide⟩
theorem e_X10_grow_29 : kk_d cX10_grow 29 (.aload_n 0) 1 30 := ⟨by decide +kernel, rfl⟩
theorem e_X10_grow_30 : kk_d cX10_grow 30 (.getfield 39) 3 33 := ⟨by decide +kernel, rfl⟩
theorem e_X10_grow_33 : kk_d cX10_grow 33 (.iload_n 1) 1 34 := ⟨by decide +kernel, rfl⟩
theorem e_X10_grow_34 : kk_d cX10_grow 34 (.invokevirtual 163) 3 37 := ⟨by decide +kernel, rfl⟩
theorem e_X10_grow_37 : kk_d cX10_grow 37 (.aload_n 0) 1 38 := ⟨by decide +kernel, rfl⟩
theorem e_X10_grow_38 : kk_d cX10_grow 38 (.getfield 21) 3 41 := ⟨by decide +kernel, rfl⟩
theorem e_X10_grow_41 : kk_d cX10_grow 41 (.getfield 137) 3 44 := ⟨by decide +kernel, rfl⟩
theorem e_X10_grow_44 : kk_d cX10_grow 44 (.iload_n 1) 1 45 := ⟨by decide +kernel, rfl⟩
theorem e_X10_grow_45 : kk_d cX10_grow 45 .iaload 1 46 := ⟨by decide +kernel, rfl⟩
theorem e_X10_grow_46 : kk_d cX10_grow 46 .ireturn 1 47 := ⟨by decide +kernel, rfl⟩
theorem e_X10_grow_26 : kk_d cX10_grow 26 (.bipush (-2)) 2 28 := ⟨by decide +kernel, rfl⟩
theorem e_X10_grow_28 : kk_d cX10_grow 28 .ireturn 1 29 := ⟨by decide +kernel, rfl⟩
theorem e_X10_grow_11 : kk_d cX10_grow 11 (.iconst (-1)) 1 12 := ⟨by decide +kernel, rfl⟩
theorem e_X10_grow_12 : kk_d cX10_grow 12 .ireturn 1 13 := ⟨by decide +kernel, rfl⟩
set_option maxRecDepth 4000 in
theorem s_X10_grow (Z : kk_Z) (v1 : Int32) (σ : kk_St) (Q : Int32 → kk_St → Prop) (h : f_X10_grow v1 σ Q) : kk_M Z sh_C yX10_grow cX10_grow 2 (some .int) (kk_R 8) [.ref (Z.2.1 0), .int v1] σ (kk_Qi Z sh_C Q) := by
  unfold f_X10_grow at h
  refine kk_met (own := RX10) (by decide) rfl (Nat.le_of_ble_eq_true rfl) rfl ?_
  refine kk_aload_n 0 rfl e_X10_grow_0 ?_
  refine kk_getr e_X10_grow_1 fl_X10_10 rfl rfl ?_
  refine kk_iload_n 1 rfl e_X10_grow_4 ?_
  refine kk_callVip (As := [.int v1]) (rest := []) e_X10_grow_5 ml_X10_124 ⟨_, _, _, _, rfl, rfl⟩ rfl (kk_fitR (by decide) (by decide)) (Nat.le_of_ble_eq_true rfl) rfl (s_X6_isLine Z v1 σ _ h) (fun r_1 h => ?_)
  refine kk_if_ne e_X10_grow_8 (fun c_4 => ?_) (fun c_4 => ?_)
  · replace h := h.1 c_4
    refine kk_aload_n 0 rfl e_X10_grow_13 ?_
    refine kk_getr e_X10_grow_14 fl_X10_21 rfl rfl ?_
    refine kk_getr e_X10_grow_17 fl_X10_137 rfl rfl ?_
    refine kk_iload_n 1 rfl e_X10_grow_20 ?_
    refine kk_iald e_X10_grow_21 rfl h.1 ?_
    replace h := h.2
    refine kk_iconst ic_m1 e_X10_grow_22 ?_
    refine kk_icmp_eq e_X10_grow_23 (fun c_3 => ?_) (fun c_3 => ?_)
    · replace h := h.1 c_3
      refine kk_aload_n 0 rfl e_X10_grow_29 ?_
      refine kk_getr e_X10_grow_30 fl_X10_39 rfl rfl ?_
      refine kk_iload_n 1 rfl e_X10_grow_33 ?_
      refine kk_callVv (As := [.int v1]) (rest := []) e_X10_grow_34 ml_X10_163 ⟨_, _, _, _, rfl, rfl⟩ rfl (kk_fitR (by decide) (by decide)) (Nat.le_of_ble_eq_true rfl) rfl (s_X5_raise Z v1 σ _ h) (fun σ_2 h => ?_)
      refine kk_aload_n 0 rfl e_X10_grow_37 ?_
      refine kk_getr e_X10_grow_38 fl_X10_21 rfl rfl ?_
      refine kk_getr e_X10_grow_41 fl_X10_137 rfl rfl ?_
      refine kk_iload_n 1 rfl e_X10_grow_44 ?_
      refine kk_iald e_X10_grow_45 rfl h.1 ?_
      replace h := h.2
      exact kk_iret e_X10_grow_46 h
    · replace h := h.2 c_3
      refine kk_bipush bp_m2 e_X10_grow_26 ?_
      exact kk_iret e_X10_grow_28 h
  · replace h := h.2 c_4
    refine kk_iconst ic_m1 e_X10_grow_11 ?_
    exact kk_iret e_X10_grow_12 h
theorem e_X10_growAll_0 : kk_d cX10_growAll 0 (.iconst 0) 1 1 := ⟨by decide +kernel, rfl⟩
theorem e_X10_growAll_1 : kk_d cX10_growAll 1 (.istore_n 1) 1 2 := ⟨by decide +kernel, rfl⟩
theorem e_X10_growAll_2 : kk_d cX10_growAll 2 (.iconst 0) 1 3 := ⟨by decide +kernel, rfl⟩
theorem e_X10_growAll_3 : kk_d cX10_growAll 3 (.istore_n 2) 1 4 := ⟨by decide +kernel, rfl⟩
theorem e_X10_growAll_4 : kk_d cX10_growAll 4 (.iload_n 2) 1 5 := ⟨by decide +kernel, rfl⟩
theorem e_X10_growAll_5 : kk_d cX10_growAll 5 (.aload_n 0) 1 6 := ⟨by decide +kernel, rfl⟩
theorem e_X10_growAll_6 : kk_d cX10_growAll 6 (.getfield 10) 3 9 := ⟨by decide +kernel, rfl⟩
theorem e_X10_growAll_9 : kk_d cX10_growAll 9 (.getfield 112) 3 12 := ⟨by decide +kernel, rfl⟩
theorem e_X10_growAll_12 : kk_dj cX10_growAll 12 (.if_icmp .ge 33) 3 (33) 15 45 := ⟨by decide +kernel, rfl, by decide⟩
theorem e_X10_growAll_45 : kk_d cX10_growAll 45 (.iload_n 1) 1 46 := ⟨by decide +kernel, rfl⟩
theorem e_X10_growAll_46 : kk_d cX10_growAll 46 .ireturn 1 47 := ⟨by decide +kernel, rfl⟩
theorem e_X10_growAll_15 : kk_d cX10_growAll 15 (.aload_n 0) 1 16 := ⟨by decide +kernel, rfl⟩
theorem e_X10_growAll_16 : kk_d cX10_growAll 16 (.getfield 21) 3 19 := ⟨by decide +kernel, rfl⟩
theorem e_X10_growAll_19 : kk_d cX10_growAll 19 (.getfield 137) 3 22 := ⟨by decide +kernel, rfl⟩
theorem e_X10_growAll_22 : kk_d cX10_growAll 22 (.iload_n 2) 1 23 := ⟨by decide +kernel, rfl⟩
theorem e_X10_growAll_23 : kk_d cX10_growAll 23 .iaload 1 24 := ⟨by decide +kernel, rfl⟩
theorem e_X10_growAll_24 : kk_d cX10_growAll 24 (.iconst (-1)) 1 25 := ⟨by decide +kernel, rfl⟩
theorem e_X10_growAll_25 : kk_dj cX10_growAll 25 (.if_icmp .ne 14) 3 (14) 28 39 := ⟨by decide +kernel, rfl, by decide⟩
theorem e_X10_growAll_39 : kk_d cX10_growAll 39 (.iinc 2 1) 3 42 := ⟨by decide +kernel, rfl⟩
theorem e_X10_growAll_42 : kk_dj cX10_growAll 42 (.goto (-38)) 3 (-38) 45 4 := ⟨by decide +kernel, rfl, by decide⟩
theorem e_X10_growAll_28 : kk_d cX10_growAll 28 (.aload_n 0) 1 29 := ⟨by decide +kernel, rfl⟩
theorem e_X10_growAll_29 : kk_d cX10_growAll 29 (.getfield 39) 3 32 := ⟨by decide +kernel, rfl⟩
theorem e_X10_growAll_32 : kk_d cX10_growAll 32 (.iload_n 2) 1 33 := ⟨by decide +kernel, rfl⟩
theorem e_X10_growAll_33 : kk_d cX10_growAll 33 (.invokevirtual 163) 3 36 := ⟨by decide +kernel, rfl⟩
theorem e_X10_growAll_36 : kk_d cX10_growAll 36 (.iinc 1 1) 3 39 := ⟨by decide +kernel, rfl⟩
set_option maxRecDepth 4000 in
theorem s_X10_growAll (Z : kk_Z) (σ : kk_St) (Q : Int32 → kk_St → Prop) (h : f_X10_growAll σ Q) : kk_M Z sh_C yX10_growAll cX10_growAll 3 (some .int) (kk_R 8) [.ref (Z.2.1 0)] σ (kk_Qi Z sh_C Q) := by
  unfold f_X10_growAll at h
  refine kk_met (own := RX10) (by decide) rfl (Nat.le_of_ble_eq_true rfl) rfl ?_
  refine kk_iconst ic_0 e_X10_growAll_0 ?_
  refine kk_istore_n (lv' := [(1, .int (0 : Int32)), (0, .ref (Z.2.1 0))]) e_X10_growAll_1 rfl (by decide) rfl ?_
  refine kk_iconst ic_0 e_X10_growAll_2 ?_
  refine kk_istore_n (lv' := [(2, .int (0 : Int32)), (1, .int (0 : Int32)), (0, .ref (Z.2.1 0))]) e_X10_growAll_3 rfl (by decide) rfl ?_
  refine kk_sub [2, 1, 0] rfl ?_
  refine kk_lpW3 (P := fun (v1_1 : Int32) (v2_2 : Int32) (σ_3 : kk_St) => KK Z sh_C RX10 cX10_growAll 3 (some .int) (kk_R 8) (kk_Qi Z sh_C Q) 4 [(0, .ref (Z.2.1 0)), (1, .int v1_1), (2, .int v2_2)] [] σ_3) ?_ h
  intro rec_4 hrec_4 v1_1 v2_2 σ_3 h
  refine kk_iload_n 2 rfl e_X10_growAll_4 ?_
  refine kk_aload_n 0 rfl e_X10_growAll_5 ?_
  refine kk_getr e_X10_growAll_6 fl_X10_10 rfl rfl ?_
  refine kk_geti e_X10_growAll_9 fl_X10_112 rfl rfl ?_
  refine kk_icmp_ge e_X10_growAll_12 (fun c_10 => ?_) (fun c_10 => ?_)
  · replace h := h.1 c_10
    refine kk_iload_n 1 rfl e_X10_growAll_45 ?_
    exact kk_iret e_X10_growAll_46 h
  · replace h := h.2 c_10
    refine kk_aload_n 0 rfl e_X10_growAll_15 ?_
    refine kk_getr e_X10_growAll_16 fl_X10_21 rfl rfl ?_
    refine kk_getr e_X10_growAll_19 fl_X10_137 rfl rfl ?_
    refine kk_iload_n 2 rfl e_X10_growAll_22 ?_
    refine kk_iald e_X10_growAll_23 rfl h.1 ?_
    replace h := h.2
    refine kk_iconst ic_m1 e_X10_growAll_24 ?_
    refine kk_jW2 (P := fun (v1_5 : Int32) (σ_6 : kk_St) => KK Z sh_C RX10 cX10_growAll 3 (some .int) (kk_R 8) (kk_Qi Z sh_C Q) 39 [(0, .ref (Z.2.1 0)), (1, .int v1_5), (2, .int v2_2)] [] σ_6) h ?_ ?_
    · intro v1_5 σ_6 h
      refine kk_iinc (lv' := [(2, .int (v2_2 + (1 : Int32))), (0, .ref (Z.2.1 0)), (1, .int v1_5)]) e_X10_growAll_39 (j := 2) rfl (ii_1 v2_2) (by decide) rfl ?_
      refine kk_goto e_X10_growAll_42 ?_
      exact kk_sub [1, 2, 0] rfl (hrec_4 v1_5 (v2_2 + (1 : Int32)) σ_6 h)
    · intro J_7 hJ_7 h
      refine kk_icmp_ne e_X10_growAll_25 (fun c_9 => ?_) (fun c_9 => ?_)
      · replace h := h.1 c_9
        exact kk_sub [0, 1, 2] rfl (hJ_7 v1_1 σ_3 h)
      · replace h := h.2 c_9
        refine kk_aload_n 0 rfl e_X10_growAll_28 ?_
        refine kk_getr e_X10_growAll_29 fl_X10_39 rfl rfl ?_
        refine kk_iload_n 2 rfl e_X10_growAll_32 ?_
        refine kk_callVv (As := [.int v2_2]) (rest := []) e_X10_growAll_33 ml_X10_163 ⟨_, _, _, _, rfl, rfl⟩ rfl (kk_fitR (by decide) (by decide)) (Nat.le_of_ble_eq_true rfl) rfl (s_X5_raise Z v2_2 σ_3 _ h) (fun σ_8 h => ?_)
        refine kk_iinc (lv' := [(1, .int (v1_1 + (1 : Int32))), (0, .ref (Z.2.1 0)), (2, .int v2_2)]) e_X10_growAll_36 (j := 1) rfl (ii_1 v1_1) (by decide) rfl ?_
        exact kk_sub [1, 0, 2] rfl (hJ_7 (v1_1 + (1 : Int32)) σ_8 h)
theorem e_X10_grown_0 : kk_d cX10_grown 0 (.aload_n 0) 1 1 := ⟨by decide +kernel, rfl⟩
theorem e_X10_grown_1 : kk_d cX10_grown 1 (.getfield 39) 3 4 := ⟨by decide +kernel, rfl⟩
theorem e_X10_grown_4 : kk_d cX10_grown 4 (.getfield 102) 3 7 := ⟨by decide +kernel, rfl⟩
theorem e_X10_grown_7 : kk_dj cX10_grown 7 (.ifCond .eq 19) 3 (19) 10 26 := ⟨by decide +kernel, rfl, by decide⟩
theorem e_X10_grown_26 : kk_d cX10_grown 26 (.iconst (-1)) 1 27 := ⟨by decide +kernel, rfl⟩
theorem e_X10_grown_27 : kk_d cX10_grown 27 .ireturn 1 28 := ⟨by decide +kernel, rfl⟩
theorem e_X10_grown_10 : kk_d cX10_grown 10 (.iload_n 1) 1 11 := ⟨by decide +kernel, rfl⟩
theorem e_X10_grown_11 : kk_dj cX10_grown 11 (.ifCond .lt 15) 3 (15) 14 26 := ⟨by decide +kernel, rfl, by decide⟩
theorem e_X10_grown_14 : kk_d cX10_grown 14 (.iload_n 1) 1 15 := ⟨by decide +kernel, rfl⟩
theorem e_X10_grown_15 : kk_d cX10_grown 15 (.aload_n 0) 1 16 := ⟨by decide +kernel, rfl⟩
theorem e_X10_grown_16 : kk_d cX10_grown 16 (.getfield 39) 3 19 := ⟨by decide +kernel, rfl⟩
theorem e_X10_grown_19 : kk_d cX10_grown 19 (.getfield 194) 3 22 := ⟨by decide +kernel, rfl⟩
theorem e_X10_grown_22 : kk_d cX10_grown 22 .arraylength 1 23 := ⟨by decide +kernel, rfl⟩
theorem e_X10_grown_23 : kk_dj cX10_grown 23 (.if_icmp .lt 5) 3 (5) 26 28 := ⟨by decide +kernel, rfl, by decide⟩
theorem e_X10_grown_28 : kk_d cX10_grown 28 (.aload_n 0) 1 29 := ⟨by decide +kernel, rfl⟩
theorem e_X10_grown_29 : kk_d cX10_grown 29 (.getfield 39) 3 32 := ⟨by decide +kernel, rfl⟩
theorem e_X10_grown_32 : kk_d cX10_grown 32 (.getfield 194) 3 35 := ⟨by decide +kernel, rfl⟩
theorem e_X10_grown_35 : kk_d cX10_grown 35 (.iload_n 1) 1 36 := ⟨by decide +kernel, rfl⟩
theorem e_X10_grown_36 : kk_d cX10_grown 36 .iaload 1 37 := ⟨by decide +kernel, rfl⟩
theorem e_X10_grown_37 : kk_d cX10_grown 37 .ireturn 1 38 := ⟨by decide +kernel, rfl⟩
set_option maxRecDepth 4000 in
theorem s_X10_grown (Z : kk_Z) (v1 : Int32) (σ : kk_St) (Q : Int32 → Prop) (h : f_X10_grown v1 σ Q) : kk_M Z sh_C yX10_grown cX10_grown 2 (some .int) (kk_R 2) [.ref (Z.2.1 0), .int v1] σ (kk_Qi Z sh_C (fun r σ' => σ' = σ ∧ Q r)) := by
  unfold f_X10_grown at h
  refine kk_met (own := RX10) (by decide) rfl (Nat.le_of_ble_eq_true rfl) rfl ?_
  refine kk_aload_n 0 rfl e_X10_grown_0 ?_
  refine kk_getr e_X10_grown_1 fl_X10_39 rfl rfl ?_
  refine kk_geti e_X10_grown_4 fl_X10_102 rfl rfl ?_
  refine kk_jW0 (P := KK Z sh_C RX10 cX10_grown 2 (some .int) (kk_R 2) (kk_Qi Z sh_C (fun r σ' => σ' = σ ∧ Q r)) 26 [] [] σ) h ?_ ?_
  · intro h
    refine kk_iconst ic_m1 e_X10_grown_26 ?_
    exact kk_iret e_X10_grown_27 ⟨rfl, h⟩
  · intro J_1 hJ_1 h
    refine kk_if_eq e_X10_grown_7 (fun c_4 => ?_) (fun c_4 => ?_)
    · replace h := h.1 c_4
      exact kk_sub [] rfl (hJ_1 h)
    · replace h := h.2 c_4
      refine kk_iload_n 1 rfl e_X10_grown_10 ?_
      refine kk_if_lt e_X10_grown_11 (fun c_3 => ?_) (fun c_3 => ?_)
      · replace h := h.1 c_3
        exact kk_sub [] rfl (hJ_1 h)
      · replace h := h.2 c_3
        refine kk_iload_n 1 rfl e_X10_grown_14 ?_
        refine kk_aload_n 0 rfl e_X10_grown_15 ?_
        refine kk_getr e_X10_grown_16 fl_X10_39 rfl rfl ?_
        refine kk_getr e_X10_grown_19 fl_X10_194 rfl rfl ?_
        refine kk_alen (v := (5 : Int32)) e_X10_grown_22 rfl (by decide) ?_
        refine kk_icmp_lt e_X10_grown_23 (fun c_2 => ?_) (fun c_2 => ?_)
        · replace h := h.1 c_2
          refine kk_aload_n 0 rfl e_X10_grown_28 ?_
          refine kk_getr e_X10_grown_29 fl_X10_39 rfl rfl ?_
          refine kk_getr e_X10_grown_32 fl_X10_194 rfl rfl ?_
          refine kk_iload_n 1 rfl e_X10_grown_35 ?_
          refine kk_iald e_X10_grown_36 rfl h.1 ?_
          replace h := h.2
          exact kk_iret e_X10_grown_37 ⟨rfl, h⟩
        · replace h := h.2 c_2
          exact kk_sub [] rfl (hJ_1 h)
theorem e_X10_idle_0 : kk_d cX10_idle 0 (.iload_n 1) 1 1 := ⟨by decide +kernel, rfl⟩
theorem e_X10_idle_1 : kk_d cX10_idle 1 (.iconst (-1)) 1 2 := ⟨by decide +kernel, rfl⟩
theorem e_X10_idle_2 : kk_dj cX10_idle 2 (.if_icmp .ne 13) 3 (13) 5 15 := ⟨by decide +kernel, rfl, by decide⟩
theorem e_X10_idle_15 : kk_d cX10_idle 15 (.aload_n 0) 1 16 := ⟨by decide +kernel, rfl⟩
theorem e_X10_idle_16 : kk_d cX10_idle 16 (.getfield 10) 3 19 := ⟨by decide +kernel, rfl⟩
theorem e_X10_idle_19 : kk_d cX10_idle 19 (.iload_n 1) 1 20 := ⟨by decide +kernel, rfl⟩
theorem e_X10_idle_20 : kk_d cX10_idle 20 (.invokevirtual 108) 3 23 := ⟨by decide +kernel, rfl⟩
theorem e_X10_idle_23 : kk_dj cX10_idle 23 (.ifCond .eq 17) 3 (17) 26 40 := ⟨by decide +kernel, rfl, by decide⟩
theorem e_X10_idle_42 : kk_d cX10_idle 42 .ireturn 1 43 := ⟨by decide +kernel, rfl⟩
theorem e_X10_idle_40 : kk_d cX10_idle 40 (.bipush (-2)) 2 42 := ⟨by decide +kernel, rfl⟩
theorem e_X10_idle_26 : kk_d cX10_idle 26 (.aload_n 0) 1 27 := ⟨by decide +kernel, rfl⟩
theorem e_X10_idle_27 : kk_d cX10_idle 27 (.getfield 21) 3 30 := ⟨by decide +kernel, rfl⟩
theorem e_X10_idle_30 : kk_d cX10_idle 30 (.iload_n 1) 1 31 := ⟨by decide +kernel, rfl⟩
theorem e_X10_idle_31 : kk_d cX10_idle 31 (.invokevirtual 209) 3 34 := ⟨by decide +kernel, rfl⟩
theorem e_X10_idle_34 : kk_d cX10_idle 34 (.invokestatic 233) 3 37 := ⟨by decide +kernel, rfl⟩
theorem e_X10_idle_37 : kk_dj cX10_idle 37 (.goto 5) 3 (5) 40 42 := ⟨by decide +kernel, rfl, by decide⟩
theorem e_X10_idle_5 : kk_d cX10_idle 5 (.aload_n 0) 1 6 := ⟨by decide +kernel, rfl⟩
theorem e_X10_idle_6 : kk_d cX10_idle 6 (.getfield 53) 3 9 := ⟨by decide +kernel, rfl⟩
theorem e_X10_idle_9 : kk_d cX10_idle 9 (.iconst 0) 1 10 := ⟨by decide +kernel, rfl⟩
theorem e_X10_idle_10 : kk_d cX10_idle 10 (.iconst 0) 1 11 := ⟨by decide +kernel, rfl⟩
theorem e_X10_idle_11 : kk_d cX10_idle 11 (.invokevirtual 230) 3 14 := ⟨by decide +kernel, rfl⟩
theorem e_X10_idle_14 : kk_d cX10_idle 14 .ireturn 1 15 := ⟨by decide +kernel, rfl⟩
set_option maxRecDepth 4000 in
theorem s_X10_idle (Z : kk_Z) (v1 : Int32) (σ : kk_St) (Q : Int32 → Prop) (h : f_X10_idle v1 σ Q) : kk_M Z sh_C yX10_idle cX10_idle 2 (some .int) (kk_R 6) [.ref (Z.2.1 0), .int v1] σ (kk_Qi Z sh_C (fun r σ' => σ' = σ ∧ Q r)) := by
  unfold f_X10_idle at h
  refine kk_met (own := RX10) (by decide) rfl (Nat.le_of_ble_eq_true rfl) rfl ?_
  refine kk_iload_n 1 rfl e_X10_idle_0 ?_
  refine kk_iconst ic_m1 e_X10_idle_1 ?_
  refine kk_icmp_ne e_X10_idle_2 (fun c_8 => ?_) (fun c_8 => ?_)
  · replace h := h.1 c_8
    refine kk_aload_n 0 rfl e_X10_idle_15 ?_
    refine kk_getr e_X10_idle_16 fl_X10_10 rfl rfl ?_
    refine kk_iload_n 1 rfl e_X10_idle_19 ?_
    refine kk_callVip (As := [.int v1]) (rest := []) e_X10_idle_20 ml_X10_108 ⟨_, _, _, _, rfl, rfl⟩ rfl (kk_fitR (by decide) (by decide)) (Nat.le_of_ble_eq_true rfl) rfl (s_X6_isPost Z v1 σ _ h) (fun r_1 h => ?_)
    refine kk_jW1 (P := fun (t_2 : Int32) => KK Z sh_C RX10 cX10_idle 2 (some .int) (kk_R 6) (kk_Qi Z sh_C (fun r σ' => σ' = σ ∧ Q r)) 42 [] [.int t_2] σ) h ?_ ?_
    · intro t_2 h
      exact kk_iret e_X10_idle_42 ⟨rfl, h⟩
    · intro J_3 hJ_3 h
      refine kk_if_eq e_X10_idle_23 (fun c_6 => ?_) (fun c_6 => ?_)
      · replace h := h.1 c_6
        refine kk_bipush bp_m2 e_X10_idle_40 ?_
        exact kk_sub [] rfl (hJ_3 (-2 : Int32) h)
      · replace h := h.2 c_6
        refine kk_aload_n 0 rfl e_X10_idle_26 ?_
        refine kk_getr e_X10_idle_27 fl_X10_21 rfl rfl ?_
        refine kk_iload_n 1 rfl e_X10_idle_30 ?_
        refine kk_callVip (As := [.int v1]) (rest := []) e_X10_idle_31 ml_X10_209 ⟨_, _, _, _, rfl, rfl⟩ rfl (kk_fitR (by decide) (by decide)) (Nat.le_of_ble_eq_true rfl) rfl (s_X3_coloursAt Z v1 σ _ h) (fun r_4 h => ?_)
        refine kk_callSip (As := [.int r_4]) (rest := []) e_X10_idle_34 ml_X10_233 rfl (kk_fitR (by decide) (by decide)) (Nat.le_of_ble_eq_true rfl) rfl (s_X10_idleOf Z r_4 σ _ h) (fun r_5 h => ?_)
        refine kk_goto e_X10_idle_37 ?_
        exact kk_sub [] rfl (hJ_3 r_5 h)
  · replace h := h.2 c_8
    refine kk_aload_n 0 rfl e_X10_idle_5 ?_
    refine kk_getr e_X10_idle_6 fl_X10_53 rfl rfl ?_
    refine kk_iconst ic_0 e_X10_idle_9 ?_
    refine kk_iconst ic_0 e_X10_idle_10 ?_
    refine kk_callVip (As := [.int (0 : Int32), .int (0 : Int32)]) (rest := []) e_X10_idle_11 ml_X10_230 ⟨_, _, _, _, rfl, rfl⟩ rfl (kk_fitR (by decide) (by decide)) (Nat.le_of_ble_eq_true rfl) rfl (s_X1_idleOfAll Z (0 : Int32) (0 : Int32) σ _ h) (fun r_7 h => ?_)
    exact kk_iret e_X10_idle_14 ⟨rfl, h⟩
theorem e_X10_index_0 : kk_d cX10_index 0 (.aload_n 0) 1 1 := ⟨by decide +kernel, rfl⟩
theorem e_X10_index_1 : kk_d cX10_index 1 (.getfield 60) 3 4 := ⟨by decide +kernel, rfl⟩
theorem e_X10_index_4 : kk_d cX10_index 4 (.invokevirtual 257) 3 7 := ⟨by decide +kernel, rfl⟩
theorem e_X10_index_7 : kk_d cX10_index 7 .ireturn 1 8 := ⟨by decide +kernel, rfl⟩
set_option maxRecDepth 4000 in
theorem s_X10_index (Z : kk_Z) (σ : kk_St) (Q : Int32 → kk_St → Prop) (h : f_X10_index σ Q) : kk_M Z sh_C yX10_index cX10_index 1 (some .int) (kk_R 68) [.ref (Z.2.1 0)] σ (kk_Qi Z sh_C Q) := by
  unfold f_X10_index at h
  refine kk_met (own := RX10) (by decide) rfl (Nat.le_of_ble_eq_true rfl) rfl ?_
  refine kk_aload_n 0 rfl e_X10_index_0 ?_
  refine kk_getr e_X10_index_1 fl_X10_60 rfl rfl ?_
  refine kk_callVi (As := []) (rest := []) e_X10_index_4 ml_X10_257 ⟨_, _, _, _, rfl, rfl⟩ rfl (kk_fitR (by decide) (by decide)) (Nat.le_of_ble_eq_true rfl) rfl (s_X7_fewest Z σ _ h) (fun r_1 σ_2 h => ?_)
  exact kk_iret e_X10_index_7 h
theorem e_X10_isLikeKept_0 : kk_d cX10_isLikeKept 0 (.iconst 0) 1 1 := ⟨by decide +kernel, rfl⟩
theorem e_X10_isLikeKept_1 : kk_d cX10_isLikeKept 1 (.istore_n 1) 1 2 := ⟨by decide +kernel, rfl⟩
theorem e_X10_isLikeKept_2 : kk_d cX10_isLikeKept 2 (.iload_n 1) 1 3 := ⟨by decide +kernel, rfl⟩
theorem e_X10_isLikeKept_3 : kk_d cX10_isLikeKept 3 (.aload_n 0) 1 4 := ⟨by decide +kernel, rfl⟩
theorem e_X10_isLikeKept_4 : kk_d cX10_isLikeKept 4 (.getfield 10) 3 7 := ⟨by decide +kernel, rfl⟩
theorem e_X10_isLikeKept_7 : kk_d cX10_isLikeKept 7 (.getfield 112) 3 10 := ⟨by decide +kernel, rfl⟩
theorem e_X10_isLikeKept_10 : kk_dj cX10_isLikeKept 10 (.if_icmp .ge 111) 3 (111) 13 121 := ⟨by decide +kernel, rfl, by decide⟩
theorem e_X10_isLikeKept_121 : kk_d cX10_isLikeKept 121 (.iconst 1) 1 122 := ⟨by decide +kernel, rfl⟩
theorem e_X10_isLikeKept_122 : kk_d cX10_isLikeKept 122 .ireturn 1 123 := ⟨by decide +kernel, rfl⟩
theorem e_X10_isLikeKept_13 : kk_d cX10_isLikeKept 13 (.aload_n 0) 1 14 := ⟨by decide +kernel, rfl⟩
theorem e_X10_isLikeKept_14 : kk_d cX10_isLikeKept 14 (.getfield 85) 3 17 := ⟨by decide +kernel, rfl⟩
theorem e_X10_isLikeKept_17 : kk_d cX10_isLikeKept 17 (.iload_n 1) 1 18 := ⟨by decide +kernel, rfl⟩
theorem e_X10_isLikeKept_18 : kk_d cX10_isLikeKept 18 .iaload 1 19 := ⟨by decide +kernel, rfl⟩
theorem e_X10_isLikeKept_19 : kk_d cX10_isLikeKept 19 (.iconst (-1)) 1 20 := ⟨by decide +kernel, rfl⟩
theorem e_X10_isLikeKept_20 : kk_dj cX10_isLikeKept 20 (.if_icmp .ne 7) 3 (7) 23 27 := ⟨by decide +kernel, rfl, by decide⟩
theorem e_X10_isLikeKept_28 : kk_d cX10_isLikeKept 28 (.aload_n 0) 1 29 := ⟨by decide +kernel, rfl⟩
theorem e_X10_isLikeKept_29 : kk_d cX10_isLikeKept 29 (.getfield 21) 3 32 := ⟨by decide +kernel, rfl⟩
theorem e_X10_isLikeKept_32 : kk_d cX10_isLikeKept 32 (.getfield 137) 3 35 := ⟨by decide +kernel, rfl⟩
theorem e_X10_isLikeKept_35 : kk_d cX10_isLikeKept 35 (.iload_n 1) 1 36 := ⟨by decide +kernel, rfl⟩
theorem e_X10_isLikeKept_36 : kk_d cX10_isLikeKept 36 .iaload 1 37 := ⟨by decide +kernel, rfl⟩
theorem e_X10_isLikeKept_37 : kk_d cX10_isLikeKept 37 (.iconst (-1)) 1 38 := ⟨by decide +kernel, rfl⟩
theorem e_X10_isLikeKept_38 : kk_dj cX10_isLikeKept 38 (.if_icmp .ne 7) 3 (7) 41 45 := ⟨by decide +kernel, rfl, by decide⟩
theorem e_X10_isLikeKept_46 : kk_dj cX10_isLikeKept 46 (.if_icmp .eq 5) 3 (5) 49 51 := ⟨by decide +kernel, rfl, by decide⟩
theorem e_X10_isLikeKept_51 : kk_d cX10_isLikeKept 51 (.iconst 0) 1 52 := ⟨by decide +kernel, rfl⟩
theorem e_X10_isLikeKept_52 : kk_d cX10_isLikeKept 52 (.istore_n 2) 1 53 := ⟨by decide +kernel, rfl⟩
theorem e_X10_isLikeKept_53 : kk_d cX10_isLikeKept 53 (.iload_n 2) 1 54 := ⟨by decide +kernel, rfl⟩
theorem e_X10_isLikeKept_54 : kk_d cX10_isLikeKept 54 (.iload_n 1) 1 55 := ⟨by decide +kernel, rfl⟩
theorem e_X10_isLikeKept_55 : kk_dj cX10_isLikeKept 55 (.if_icmp .ge 60) 3 (60) 58 115 := ⟨by decide +kernel, rfl, by decide⟩
theorem e_X10_isLikeKept_115 : kk_d cX10_isLikeKept 115 (.iinc 1 1) 3 118 := ⟨by decide +kernel, rfl⟩
theorem e_X10_isLikeKept_118 : kk_dj cX10_isLikeKept 118 (.goto (-116)) 3 (-116) 121 2 := ⟨by decide +kernel, rfl, by decide⟩
theorem e_X10_isLikeKept_58 : kk_d cX10_isLikeKept 58 (.aload_n 0) 1 59 := ⟨by decide +kernel, rfl⟩
theorem e_X10_isLikeKept_59 : kk_d cX10_isLikeKept 59 (.getfield 85) 3 62 := ⟨by decide +kernel, rfl⟩
theorem e_X10_isLikeKept_62 : kk_d cX10_isLikeKept 62 (.iload_n 1) 1 63 := ⟨by decide +kernel, rfl⟩
theorem e_X10_isLikeKept_63 : kk_d cX10_isLikeKept 63 .iaload 1 64 := ⟨by decide +kernel, rfl⟩
theorem e_X10_isLikeKept_64 : kk_d cX10_isLikeKept 64 (.aload_n 0) 1 65 := ⟨by decide +kernel, rfl⟩
theorem e_X10_isLikeKept_65 : kk_d cX10_isLikeKept 65 (.getfield 85) 3 68 := ⟨by decide +kernel, rfl⟩
theorem e_X10_isLikeKept_68 : kk_d cX10_isLikeKept 68 (.iload_n 2) 1 69 := ⟨by decide +kernel, rfl⟩
theorem e_X10_isLikeKept_69 : kk_d cX10_isLikeKept 69 .iaload 1 70 := ⟨by decide +kernel, rfl⟩
theorem e_X10_isLikeKept_70 : kk_dj cX10_isLikeKept 70 (.if_icmp .ne 7) 3 (7) 73 77 := ⟨by decide +kernel, rfl, by decide⟩
theorem e_X10_isLikeKept_78 : kk_d cX10_isLikeKept 78 (.aload_n 0) 1 79 := ⟨by decide +kernel, rfl⟩
theorem e_X10_isLikeKept_79 : kk_d cX10_isLikeKept 79 (.getfield 21) 3 82 := ⟨by decide +kernel, rfl⟩
theorem e_X10_isLikeKept_82 : kk_d cX10_isLikeKept 82 (.getfield 137) 3 85 := ⟨by decide +kernel, rfl⟩
theorem e_X10_isLikeKept_85 : kk_d cX10_isLikeKept 85 (.iload_n 1) 1 86 := ⟨by decide +kernel, rfl⟩
theorem e_X10_isLikeKept_86 : kk_d cX10_isLikeKept 86 .iaload 1 87 := ⟨by decide +kernel, rfl⟩
theorem e_X10_isLikeKept_87 : kk_d cX10_isLikeKept 87 (.aload_n 0) 1 88 := ⟨by decide +kernel, rfl⟩
theorem e_X10_isLikeKept_88 : kk_d cX10_isLikeKept 88 (.getfield 21) 3 91 := ⟨by decide +kernel, rfl⟩
theorem e_X10_isLikeKept_91 : kk_d cX10_isLikeKept 91 (.getfield 137) 3 94 := ⟨by decide +kernel, rfl⟩
theorem e_X10_isLikeKept_94 : kk_d cX10_isLikeKept 94 (.iload_n 2) 1 95 := ⟨by decide +kernel, rfl⟩
theorem e_X10_isLikeKept_95 : kk_d cX10_isLikeKept 95 .iaload 1 96 := ⟨by decide +kernel, rfl⟩
theorem e_X10_isLikeKept_96 : kk_dj cX10_isLikeKept 96 (.if_icmp .ne 7) 3 (7) 99 103 := ⟨by decide +kernel, rfl, by decide⟩
theorem e_X10_isLikeKept_104 : kk_dj cX10_isLikeKept 104 (.if_icmp .eq 5) 3 (5) 107 109 := ⟨by decide +kernel, rfl, by decide⟩
theorem e_X10_isLikeKept_109 : kk_d cX10_isLikeKept 109 (.iinc 2 1) 3 112 := ⟨by decide +kernel, rfl⟩
theorem e_X10_isLikeKept_112 : kk_dj cX10_isLikeKept 112 (.goto (-59)) 3 (-59) 115 53 := ⟨by decide +kernel, rfl, by decide⟩
theorem e_X10_isLikeKept_107 : kk_d cX10_isLikeKept 107 (.iconst 0) 1 108 := ⟨by decide +kernel, rfl⟩
theorem e_X10_isLikeKept_108 : kk_d cX10_isLikeKept 108 .ireturn 1 109 := ⟨by decide +kernel, rfl⟩
theorem e_X10_isLikeKept_103 : kk_d cX10_isLikeKept 103 (.iconst 0) 1 104 := ⟨by decide +kernel, rfl⟩
theorem e_X10_isLikeKept_99 : kk_d cX10_isLikeKept 99 (.iconst 1) 1 100 := ⟨by decide +kernel, rfl⟩
theorem e_X10_isLikeKept_100 : kk_dj cX10_isLikeKept 100 (.goto 4) 3 (4) 103 104 := ⟨by decide +kernel, rfl, by decide⟩
theorem e_X10_isLikeKept_77 : kk_d cX10_isLikeKept 77 (.iconst 0) 1 78 := ⟨by decide +kernel, rfl⟩
theorem e_X10_isLikeKept_73 : kk_d cX10_isLikeKept 73 (.iconst 1) 1 74 := ⟨by decide +kernel, rfl⟩
theorem e_X10_isLikeKept_74 : kk_dj cX10_isLikeKept 74 (.goto 4) 3 (4) 77 78 := ⟨by decide +kernel, rfl, by decide⟩
theorem e_X10_isLikeKept_49 : kk_d cX10_isLikeKept 49 (.iconst 0) 1 50 := ⟨by decide +kernel, rfl⟩
theorem e_X10_isLikeKept_50 : kk_d cX10_isLikeKept 50 .ireturn 1 51 := ⟨by decide +kernel, rfl⟩
theorem e_X10_isLikeKept_45 : kk_d cX10_isLikeKept 45 (.iconst 0) 1 46 := ⟨by decide +kernel, rfl⟩
theorem e_X10_isLikeKept_41 : kk_d cX10_isLikeKept 41 (.iconst 1) 1 42 := ⟨by decide +kernel, rfl⟩
theorem e_X10_isLikeKept_42 : kk_dj cX10_isLikeKept 42 (.goto 4) 3 (4) 45 46 := ⟨by decide +kernel, rfl, by decide⟩
theorem e_X10_isLikeKept_27 : kk_d cX10_isLikeKept 27 (.iconst 0) 1 28 := ⟨by decide +kernel, rfl⟩
theorem e_X10_isLikeKept_23 : kk_d cX10_isLikeKept 23 (.iconst 1) 1 24 := ⟨by decide +kernel, rfl⟩
theorem e_X10_isLikeKept_24 : kk_dj cX10_isLikeKept 24 (.goto 4) 3 (4) 27 28 := ⟨by decide +kernel, rfl, by decide⟩
set_option maxRecDepth 4000 in
theorem s_X10_isLikeKept (Z : kk_Z) (σ : kk_St) (Q : Int32 → Prop) (h : f_X10_isLikeKept σ Q) : kk_M Z sh_C yX10_isLikeKept cX10_isLikeKept 3 (some .boolean) (kk_R 2) [.ref (Z.2.1 0)] σ (kk_Qi Z sh_C (fun r σ' => σ' = σ ∧ Q r)) := by
  unfold f_X10_isLikeKept at h
  refine kk_met (own := RX10) (by decide) rfl (Nat.le_of_ble_eq_true rfl) rfl ?_
  refine kk_iconst ic_0 e_X10_isLikeKept_0 ?_
  refine kk_istore_n (lv' := [(1, .int (0 : Int32)), (0, .ref (Z.2.1 0))]) e_X10_isLikeKept_1 rfl (by decide) rfl ?_
  refine kk_sub [1, 0] rfl ?_
  refine kk_lpW1 (P := fun (v1_1 : Int32) => KK Z sh_C RX10 cX10_isLikeKept 3 (some .boolean) (kk_R 2) (kk_Qi Z sh_C (fun r σ' => σ' = σ ∧ Q r)) 2 [(0, .ref (Z.2.1 0)), (1, .int v1_1)] [] σ) ?_ h
  intro rec_2 hrec_2 v1_1 h
  refine kk_iload_n 1 rfl e_X10_isLikeKept_2 ?_
  refine kk_aload_n 0 rfl e_X10_isLikeKept_3 ?_
  refine kk_getr e_X10_isLikeKept_4 fl_X10_10 rfl rfl ?_
  refine kk_geti e_X10_isLikeKept_7 fl_X10_112 rfl rfl ?_
  refine kk_icmp_ge e_X10_isLikeKept_10 (fun c_20 => ?_) (fun c_20 => ?_)
  · replace h := h.1 c_20
    refine kk_iconst ic_1 e_X10_isLikeKept_121 ?_
    exact kk_zret e_X10_isLikeKept_122 (Or.inr rfl) ⟨rfl, h⟩
  · replace h := h.2 c_20
    refine kk_aload_n 0 rfl e_X10_isLikeKept_13 ?_
    refine kk_getr e_X10_isLikeKept_14 fl_X10_85 rfl rfl ?_
    refine kk_iload_n 1 rfl e_X10_isLikeKept_17 ?_
    refine kk_iald e_X10_isLikeKept_18 rfl h.1 ?_
    replace h := h.2
    refine kk_iconst ic_m1 e_X10_isLikeKept_19 ?_
    refine kk_jW1 (P := fun (t_3 : Int32) => KK Z sh_C RX10 cX10_isLikeKept 3 (some .boolean) (kk_R 2) (kk_Qi Z sh_C (fun r σ' => σ' = σ ∧ Q r)) 28 [(0, .ref (Z.2.1 0)), (1, .int v1_1)] [.int t_3] σ) h ?_ ?_
    · intro t_3 h
      refine kk_aload_n 0 rfl e_X10_isLikeKept_28 ?_
      refine kk_getr e_X10_isLikeKept_29 fl_X10_21 rfl rfl ?_
      refine kk_getr e_X10_isLikeKept_32 fl_X10_137 rfl rfl ?_
      refine kk_iload_n 1 rfl e_X10_isLikeKept_35 ?_
      refine kk_iald e_X10_isLikeKept_36 rfl h.1 ?_
      replace h := h.2
      refine kk_iconst ic_m1 e_X10_isLikeKept_37 ?_
      refine kk_jW1 (P := fun (t_5 : Int32) => KK Z sh_C RX10 cX10_isLikeKept 3 (some .boolean) (kk_R 2) (kk_Qi Z sh_C (fun r σ' => σ' = σ ∧ Q r)) 46 [(0, .ref (Z.2.1 0)), (1, .int v1_1)] [.int t_5, .int t_3] σ) h ?_ ?_
      · intro t_5 h
        refine kk_icmp_eq e_X10_isLikeKept_46 (fun c_17 => ?_) (fun c_17 => ?_)
        · replace h := h.1 c_17
          refine kk_iconst ic_0 e_X10_isLikeKept_51 ?_
          refine kk_istore_n (lv' := [(2, .int (0 : Int32)), (0, .ref (Z.2.1 0)), (1, .int v1_1)]) e_X10_isLikeKept_52 rfl (by decide) rfl ?_
          refine kk_sub [1, 2, 0] rfl ?_
          refine kk_lpW1 (P := fun (v2_7 : Int32) => KK Z sh_C RX10 cX10_isLikeKept 3 (some .boolean) (kk_R 2) (kk_Qi Z sh_C (fun r σ' => σ' = σ ∧ Q r)) 53 [(0, .ref (Z.2.1 0)), (1, .int v1_1), (2, .int v2_7)] [] σ) ?_ h
          intro rec_8 hrec_8 v2_7 h
          refine kk_iload_n 2 rfl e_X10_isLikeKept_53 ?_
          refine kk_iload_n 1 rfl e_X10_isLikeKept_54 ?_
          refine kk_icmp_ge e_X10_isLikeKept_55 (fun c_16 => ?_) (fun c_16 => ?_)
          · replace h := h.1 c_16
            refine kk_iinc (lv' := [(1, .int (v1_1 + (1 : Int32))), (0, .ref (Z.2.1 0)), (2, .int v2_7)]) e_X10_isLikeKept_115 (j := 1) rfl (ii_1 v1_1) (by decide) rfl ?_
            refine kk_goto e_X10_isLikeKept_118 ?_
            exact kk_sub [1, 0] rfl (hrec_2 (v1_1 + (1 : Int32)) h)
          · replace h := h.2 c_16
            refine kk_aload_n 0 rfl e_X10_isLikeKept_58 ?_
            refine kk_getr e_X10_isLikeKept_59 fl_X10_85 rfl rfl ?_
            refine kk_iload_n 1 rfl e_X10_isLikeKept_62 ?_
            refine kk_iald e_X10_isLikeKept_63 rfl h.1 ?_
            replace h := h.2
            refine kk_aload_n 0 rfl e_X10_isLikeKept_64 ?_
            refine kk_getr e_X10_isLikeKept_65 fl_X10_85 rfl rfl ?_
            refine kk_iload_n 2 rfl e_X10_isLikeKept_68 ?_
            refine kk_iald e_X10_isLikeKept_69 rfl h.1 ?_
            replace h := h.2
            refine kk_jW1 (P := fun (t_9 : Int32) => KK Z sh_C RX10 cX10_isLikeKept 3 (some .boolean) (kk_R 2) (kk_Qi Z sh_C (fun r σ' => σ' = σ ∧ Q r)) 78 [(0, .ref (Z.2.1 0)), (1, .int v1_1), (2, .int v2_7)] [.int t_9] σ) h ?_ ?_
            · intro t_9 h
              refine kk_aload_n 0 rfl e_X10_isLikeKept_78 ?_
              refine kk_getr e_X10_isLikeKept_79 fl_X10_21 rfl rfl ?_
              refine kk_getr e_X10_isLikeKept_82 fl_X10_137 rfl rfl ?_
              refine kk_iload_n 1 rfl e_X10_isLikeKept_85 ?_
              refine kk_iald e_X10_isLikeKept_86 rfl h.1 ?_
              replace h := h.2
              refine kk_aload_n 0 rfl e_X10_isLikeKept_87 ?_
              refine kk_getr e_X10_isLikeKept_88 fl_X10_21 rfl rfl ?_
              refine kk_getr e_X10_isLikeKept_91 fl_X10_137 rfl rfl ?_
              refine kk_iload_n 2 rfl e_X10_isLikeKept_94 ?_
              refine kk_iald e_X10_isLikeKept_95 rfl h.1 ?_
              replace h := h.2
              refine kk_jW1 (P := fun (t_11 : Int32) => KK Z sh_C RX10 cX10_isLikeKept 3 (some .boolean) (kk_R 2) (kk_Qi Z sh_C (fun r σ' => σ' = σ ∧ Q r)) 104 [(0, .ref (Z.2.1 0)), (1, .int v1_1), (2, .int v2_7)] [.int t_11, .int t_9] σ) h ?_ ?_
              · intro t_11 h
                refine kk_icmp_eq e_X10_isLikeKept_104 (fun c_13 => ?_) (fun c_13 => ?_)
                · replace h := h.1 c_13
                  refine kk_iinc (lv' := [(2, .int (v2_7 + (1 : Int32))), (0, .ref (Z.2.1 0)), (1, .int v1_1)]) e_X10_isLikeKept_109 (j := 2) rfl (ii_1 v2_7) (by decide) rfl ?_
                  refine kk_goto e_X10_isLikeKept_112 ?_
                  exact kk_sub [1, 2, 0] rfl (hrec_8 (v2_7 + (1 : Int32)) h)
                · replace h := h.2 c_13
                  refine kk_iconst ic_0 e_X10_isLikeKept_107 ?_
                  exact kk_zret e_X10_isLikeKept_108 (Or.inl rfl) ⟨rfl, h⟩
              · intro J_12 hJ_12 h
                refine kk_icmp_ne e_X10_isLikeKept_96 (fun c_14 => ?_) (fun c_14 => ?_)
                · replace h := h.1 c_14
                  refine kk_iconst ic_0 e_X10_isLikeKept_103 ?_
                  exact kk_sub [0, 1, 2] rfl (hJ_12 (0 : Int32) h)
                · replace h := h.2 c_14
                  refine kk_iconst ic_1 e_X10_isLikeKept_99 ?_
                  refine kk_goto e_X10_isLikeKept_100 ?_
                  exact kk_sub [0, 1, 2] rfl (hJ_12 (1 : Int32) h)
            · intro J_10 hJ_10 h
              refine kk_icmp_ne e_X10_isLikeKept_70 (fun c_15 => ?_) (fun c_15 => ?_)
              · replace h := h.1 c_15
                refine kk_iconst ic_0 e_X10_isLikeKept_77 ?_
                exact kk_sub [0, 1, 2] rfl (hJ_10 (0 : Int32) h)
              · replace h := h.2 c_15
                refine kk_iconst ic_1 e_X10_isLikeKept_73 ?_
                refine kk_goto e_X10_isLikeKept_74 ?_
                exact kk_sub [0, 1, 2] rfl (hJ_10 (1 : Int32) h)
        · replace h := h.2 c_17
          refine kk_iconst ic_0 e_X10_isLikeKept_49 ?_
          exact kk_zret e_X10_isLikeKept_50 (Or.inl rfl) ⟨rfl, h⟩
      · intro J_6 hJ_6 h
        refine kk_icmp_ne e_X10_isLikeKept_38 (fun c_18 => ?_) (fun c_18 => ?_)
        · replace h := h.1 c_18
          refine kk_iconst ic_0 e_X10_isLikeKept_45 ?_
          exact kk_sub [0, 1] rfl (hJ_6 (0 : Int32) h)
        · replace h := h.2 c_18
          refine kk_iconst ic_1 e_X10_isLikeKept_41 ?_
          refine kk_goto e_X10_isLikeKept_42 ?_
          exact kk_sub [0, 1] rfl (hJ_6 (1 : Int32) h)
    · intro J_4 hJ_4 h
      refine kk_icmp_ne e_X10_isLikeKept_20 (fun c_19 => ?_) (fun c_19 => ?_)
      · replace h := h.1 c_19
        refine kk_iconst ic_0 e_X10_isLikeKept_27 ?_
        exact kk_sub [0, 1] rfl (hJ_4 (0 : Int32) h)
      · replace h := h.2 c_19
        refine kk_iconst ic_1 e_X10_isLikeKept_23 ?_
        refine kk_goto e_X10_isLikeKept_24 ?_
        exact kk_sub [0, 1] rfl (hJ_4 (1 : Int32) h)
theorem e_X10_keep_0 : kk_d cX10_keep 0 (.aload_n 0) 1 1 := ⟨by decide +kernel, rfl⟩
theorem e_X10_keep_1 : kk_d cX10_keep 1 (.getfield 21) 3 4 := ⟨by decide +kernel, rfl⟩
theorem e_X10_keep_4 : kk_d cX10_keep 4 (.getfield 137) 3 7 := ⟨by decide +kernel, rfl⟩
theorem e_X10_keep_7 : kk_d cX10_keep 7 (.iconst 0) 1 8 := ⟨by decide +kernel, rfl⟩
theorem e_X10_keep_8 : kk_d cX10_keep 8 (.aload_n 0) 1 9 := ⟨by decide +kernel, rfl⟩
theorem e_X10_keep_9 : kk_d cX10_keep 9 (.getfield 85) 3 12 := ⟨by decide +kernel, rfl⟩
theorem e_X10_keep_12 : kk_d cX10_keep 12 (.iconst 0) 1 13 := ⟨by decide +kernel, rfl⟩
theorem e_X10_keep_13 : kk_d cX10_keep 13 (.bipush 20) 2 15 := ⟨by decide +kernel, rfl⟩
theorem e_X10_keep_15 : kk_d cX10_keep 15 (.invokestatic 185) 3 18 := ⟨by decide +kernel, rfl⟩
theorem e_X10_keep_18 : kk_d cX10_keep 18 (.aload_n 0) 1 19 := ⟨by decide +kernel, rfl⟩
theorem e_X10_keep_19 : kk_d cX10_keep 19 (.iconst 1) 1 20 := ⟨by decide +kernel, rfl⟩
theorem e_X10_keep_20 : kk_d cX10_keep 20 (.putfield 92) 3 23 := ⟨by decide +kernel, rfl⟩
theorem e_X10_keep_23 : kk_d cX10_keep 23 (.iconst 1) 1 24 := ⟨by decide +kernel, rfl⟩
theorem e_X10_keep_24 : kk_d cX10_keep 24 .ireturn 1 25 := ⟨by decide +kernel, rfl⟩
set_option maxRecDepth 4000 in
theorem s_X10_keep (Z : kk_Z) (σ : kk_St) (Q : Int32 → kk_St → Prop) (h : f_X10_keep σ Q) : kk_M Z sh_C yX10_keep cX10_keep 1 (some .boolean) (kk_R 2) [.ref (Z.2.1 0)] σ (kk_Qi Z sh_C Q) := by
  unfold f_X10_keep at h
  refine kk_met (own := RX10) (by decide) rfl (Nat.le_of_ble_eq_true rfl) rfl ?_
  refine kk_aload_n 0 rfl e_X10_keep_0 ?_
  refine kk_getr e_X10_keep_1 fl_X10_21 rfl rfl ?_
  refine kk_getr e_X10_keep_4 fl_X10_137 rfl rfl ?_
  refine kk_iconst ic_0 e_X10_keep_7 ?_
  refine kk_aload_n 0 rfl e_X10_keep_8 ?_
  refine kk_getr e_X10_keep_9 fl_X10_85 rfl rfl ?_
  refine kk_iconst ic_0 e_X10_keep_12 ?_
  refine kk_bipush bp_20 e_X10_keep_13 ?_
  refine kk_copy e_X10_keep_15 aw_X10_185 aw_native aw_static aw_init rfl rfl (by decide) (by decide) (by decide) ⟨Nat.le_of_ble_eq_true rfl, Nat.le_of_ble_eq_true rfl⟩ ?_
  refine kk_tops (fun σ_1 eσ_1 => ?_)
  replace h := h σ_1 eσ_1
  refine kk_aload_n 0 rfl e_X10_keep_18 ?_
  refine kk_iconst ic_1 e_X10_keep_19 ?_
  refine kk_putz e_X10_keep_20 fl_X10_92 fn_X10_12 (Or.inr rfl) rfl rfl ?_
  refine kk_tops (fun σ_2 eσ_2 => ?_)
  replace h := h σ_2 eσ_2
  refine kk_iconst ic_1 e_X10_keep_23 ?_
  exact kk_zret e_X10_keep_24 (Or.inr rfl) h
theorem e_X9_isSeen_0 : kk_d cX9_isSeen 0 (.aload_n 0) 1 1 := ⟨by decide +kernel, rfl⟩
theorem e_X9_isSeen_1 : kk_d cX9_isSeen 1 (.getfield 15) 3 4 := ⟨by decide +kernel, rfl⟩
theorem e_X9_isSeen_4 : kk_d cX9_isSeen 4 (.iload_n 1) 1 5 := ⟨by decide +kernel, rfl⟩
theorem e_X9_isSeen_5 : kk_d cX9_isSeen 5 (.iconst 5) 1 6 := ⟨by decide +kernel, rfl⟩
theorem e_X9_isSeen_6 : kk_d cX9_isSeen 6 .ishr 1 7 := ⟨by decide +kernel, rfl⟩
theorem e_X9_isSeen_7 : kk_d cX9_isSeen 7 .iaload 1 8 := ⟨by decide +kernel, rfl⟩
theorem e_X9_isSeen_8 : kk_d cX9_isSeen 8 (.iload_n 1) 1 9 := ⟨by decide +kernel, rfl⟩
theorem e_X9_isSeen_9 : kk_d cX9_isSeen 9 (.bipush 31) 2 11 := ⟨by decide +kernel, rfl⟩
theorem e_X9_isSeen_11 : kk_d cX9_isSeen 11 .iand 1 12 := ⟨by decide +kernel, rfl⟩
theorem e_X9_isSeen_12 : kk_d cX9_isSeen 12 .ishr 1 13 := ⟨by decide +kernel, rfl⟩
theorem e_X9_isSeen_13 : kk_d cX9_isSeen 13 (.iconst 1) 1 14 := ⟨by decide +kernel, rfl⟩
theorem e_X9_isSeen_14 : kk_d cX9_isSeen 14 .iand 1 15 := ⟨by decide +kernel, rfl⟩
theorem e_X9_isSeen_15 : kk_dj cX9_isSeen 15 (.ifCond .eq 7) 3 (7) 18 22 := ⟨by decide +kernel, rfl, by decide⟩
theorem e_X9_isSeen_23 : kk_d cX9_isSeen 23 .ireturn 1 24 := ⟨by decide +kernel, rfl⟩
theorem e_X9_isSeen_22 : kk_d cX9_isSeen 22 (.iconst 0) 1 23 := ⟨by decide +kernel, rfl⟩
theorem e_X9_isSeen_18 : kk_d cX9_isSeen 18 (.iconst 1) 1 19 := ⟨by decide +kernel, rfl⟩
theorem e_X9_isSeen_19 : kk_dj cX9_isSeen 19 (.goto 4) 3 (4) 22 23 := ⟨by decide +kernel, rfl, by decide⟩
set_option maxRecDepth 4000 in
theorem s_X9_isSeen (Z : kk_Z) (v1 : Int32) (σ : kk_St) (Q : Int32 → Prop) (h : f_X9_isSeen v1 σ Q) : kk_M Z sh_C yX9_isSeen cX9_isSeen 2 (some .boolean) (kk_R 2) [.ref (Z.2.1 10), .int v1] σ (kk_Qi Z sh_C (fun r σ' => σ' = σ ∧ Q r)) := by
  unfold f_X9_isSeen at h
  refine kk_met (own := RX9) (by decide) rfl (Nat.le_of_ble_eq_true rfl) rfl ?_
  refine kk_aload_n 0 rfl e_X9_isSeen_0 ?_
  refine kk_getr e_X9_isSeen_1 fl_X9_15 rfl rfl ?_
  refine kk_iload_n 1 rfl e_X9_isSeen_4 ?_
  refine kk_iconst ic_5 e_X9_isSeen_5 ?_
  refine kk_ishr e_X9_isSeen_6 ?_
  refine kk_iald e_X9_isSeen_7 rfl h.1 ?_
  replace h := h.2
  refine kk_iload_n 1 rfl e_X9_isSeen_8 ?_
  refine kk_bipush bp_31 e_X9_isSeen_9 ?_
  refine kk_iand e_X9_isSeen_11 ?_
  refine kk_ishr e_X9_isSeen_12 ?_
  refine kk_iconst ic_1 e_X9_isSeen_13 ?_
  refine kk_iand e_X9_isSeen_14 ?_
  refine kk_jW1 (P := fun (t_1 : Int32) => KK Z sh_C RX9 cX9_isSeen 2 (some .boolean) (kk_R 2) (kk_Qi Z sh_C (fun r σ' => σ' = σ ∧ Q r)) 23 [] [.int t_1] σ) h ?_ ?_
  · intro t_1 h
    exact kk_zret e_X9_isSeen_23 h.1 ⟨rfl, h.2⟩
  · intro J_2 hJ_2 h
    refine kk_if_eq e_X9_isSeen_15 (fun c_3 => ?_) (fun c_3 => ?_)
    · replace h := h.1 c_3
      refine kk_iconst ic_0 e_X9_isSeen_22 ?_
      exact kk_sub [] rfl (hJ_2 (0 : Int32) h)
    · replace h := h.2 c_3
      refine kk_iconst ic_1 e_X9_isSeen_18 ?_
      refine kk_goto e_X9_isSeen_19 ?_
      exact kk_sub [] rfl (hJ_2 (1 : Int32) h)
theorem e_X9_linesWith_0 : kk_d cX9_linesWith 0 (.iload_n 1) 1 1 := ⟨by decide +kernel, rfl⟩
theorem e_X9_linesWith_1 : kk_d cX9_linesWith 1 (.iload_n 2) 1 2 := ⟨by decide +kernel, rfl⟩
theorem e_X9_linesWith_2 : kk_d cX9_linesWith 2 (.sipush 1365) 3 5 := ⟨by decide +kernel, rfl⟩
theorem e_X9_linesWith_5 : kk_d cX9_linesWith 5 .imul 1 6 := ⟨by decide +kernel, rfl⟩
theorem e_X9_linesWith_6 : kk_d cX9_linesWith 6 .ixor 1 7 := ⟨by decide +kernel, rfl⟩
theorem e_X9_linesWith_7 : kk_d cX9_linesWith 7 (.istore_n 3) 1 8 := ⟨by decide +kernel, rfl⟩
theorem e_X9_linesWith_8 : kk_d cX9_linesWith 8 (.iload_n 3) 1 9 := ⟨by decide +kernel, rfl⟩
theorem e_X9_linesWith_9 : kk_d cX9_linesWith 9 (.iload_n 3) 1 10 := ⟨by decide +kernel, rfl⟩
theorem e_X9_linesWith_10 : kk_d cX9_linesWith 10 (.iconst 1) 1 11 := ⟨by decide +kernel, rfl⟩
theorem e_X9_linesWith_11 : kk_d cX9_linesWith 11 .ishr 1 12 := ⟨by decide +kernel, rfl⟩
theorem e_X9_linesWith_12 : kk_d cX9_linesWith 12 .ior 1 13 := ⟨by decide +kernel, rfl⟩
theorem e_X9_linesWith_13 : kk_d cX9_linesWith 13 (.iconst (-1)) 1 14 := ⟨by decide +kernel, rfl⟩
theorem e_X9_linesWith_14 : kk_d cX9_linesWith 14 .ixor 1 15 := ⟨by decide +kernel, rfl⟩
theorem e_X9_linesWith_15 : kk_d cX9_linesWith 15 (.sipush 1365) 3 18 := ⟨by decide +kernel, rfl⟩
theorem e_X9_linesWith_18 : kk_d cX9_linesWith 18 .iand 1 19 := ⟨by decide +kernel, rfl⟩
theorem e_X9_linesWith_19 : kk_d cX9_linesWith 19 (.iconst 1) 1 20 := ⟨by decide +kernel, rfl⟩
theorem e_X9_linesWith_20 : kk_d cX9_linesWith 20 (.iconst 2) 1 21 := ⟨by decide +kernel, rfl⟩
theorem e_X9_linesWith_21 : kk_d cX9_linesWith 21 (.aload_n 0) 1 22 := ⟨by decide +kernel, rfl⟩
theorem e_X9_linesWith_22 : kk_d cX9_linesWith 22 (.getfield 31) 3 25 := ⟨by decide +kernel, rfl⟩
theorem e_X9_linesWith_25 : kk_d cX9_linesWith 25 (.getfield 64) 3 28 := ⟨by decide +kernel, rfl⟩
theorem e_X9_linesWith_28 : kk_d cX9_linesWith 28 .imul 1 29 := ⟨by decide +kernel, rfl⟩
theorem e_X9_linesWith_29 : kk_d cX9_linesWith 29 .ishl 1 30 := ⟨by decide +kernel, rfl⟩
theorem e_X9_linesWith_30 : kk_d cX9_linesWith 30 (.iconst 1) 1 31 := ⟨by decide +kernel, rfl⟩
theorem e_X9_linesWith_31 : kk_d cX9_linesWith 31 .isub 1 32 := ⟨by decide +kernel, rfl⟩
theorem e_X9_linesWith_32 : kk_d cX9_linesWith 32 .iand 1 33 := ⟨by decide +kernel, rfl⟩
theorem e_X9_linesWith_33 : kk_d cX9_linesWith 33 .ireturn 1 34 := ⟨by decide +kernel, rfl⟩
set_option maxRecDepth 4000 in
theorem s_X9_linesWith (Z : kk_Z) (v1 : Int32) (v2 : Int32) (σ : kk_St) (Q : Int32 → Prop) (h : f_X9_linesWith v1 v2 σ Q) : kk_M Z sh_C yX9_linesWith cX9_linesWith 4 (some .int) (kk_R 2) [.ref (Z.2.1 10), .int v1, .int v2] σ (kk_Qi Z sh_C (fun r σ' => σ' = σ ∧ Q r)) := by
  unfold f_X9_linesWith at h
  refine kk_met (own := RX9) (by decide) rfl (Nat.le_of_ble_eq_true rfl) rfl ?_
  refine kk_iload_n 1 rfl e_X9_linesWith_0 ?_
  refine kk_iload_n 2 rfl e_X9_linesWith_1 ?_
  refine kk_sipush sp_1365 e_X9_linesWith_2 ?_
  refine kk_imul e_X9_linesWith_5 ?_
  refine kk_ixor e_X9_linesWith_6 ?_
  refine kk_topi (fun v3_1 ev3_1 => ?_)
  replace h := h v3_1 ev3_1
  refine kk_istore_n (lv' := [(3, .int v3_1), (0, .ref (Z.2.1 10)), (1, .int v1), (2, .int v2)]) e_X9_linesWith_7 rfl (by decide) rfl ?_
  refine kk_iload_n 0 rfl e_X9_linesWith_8 ?_
  refine kk_iload_n 0 rfl e_X9_linesWith_9 ?_
  refine kk_iconst ic_1 e_X9_linesWith_10 ?_
  refine kk_ishr e_X9_linesWith_11 ?_
  refine kk_ior e_X9_linesWith_12 ?_
  refine kk_iconst ic_m1 e_X9_linesWith_13 ?_
  refine kk_ixor e_X9_linesWith_14 ?_
  refine kk_sipush sp_1365 e_X9_linesWith_15 ?_
  refine kk_iand e_X9_linesWith_18 ?_
  refine kk_iconst ic_1 e_X9_linesWith_19 ?_
  refine kk_iconst ic_2 e_X9_linesWith_20 ?_
  refine kk_aload_n 1 rfl e_X9_linesWith_21 ?_
  refine kk_getr e_X9_linesWith_22 fl_X9_31 rfl rfl ?_
  refine kk_geti e_X9_linesWith_25 fl_X9_64 rfl rfl ?_
  refine kk_imul e_X9_linesWith_28 ?_
  refine kk_ishl e_X9_linesWith_29 ?_
  refine kk_iconst ic_1 e_X9_linesWith_30 ?_
  refine kk_isub e_X9_linesWith_31 ?_
  refine kk_iand e_X9_linesWith_32 ?_
  exact kk_iret e_X9_linesWith_33 ⟨rfl, h⟩
theorem e_X9_mark_0 : kk_d cX9_mark 0 (.aload_n 0) 1 1 := ⟨by decide +kernel, rfl⟩
theorem e_X9_mark_1 : kk_d cX9_mark 1 (.iload_n 1) 1 2 := ⟨by decide +kernel, rfl⟩
theorem e_X9_mark_2 : kk_d cX9_mark 2 (.invokevirtual 50) 3 5 := ⟨by decide +kernel, rfl⟩
theorem e_X9_mark_5 : kk_dj cX9_mark 5 (.ifCond .ne 37) 3 (37) 8 42 := ⟨by decide +kernel, rfl, by decide⟩
theorem e_X9_mark_42 : kk_d cX9_mark 42 .return_ 1 43 := ⟨by decide +kernel, rfl⟩
theorem e_X9_mark_8 : kk_d cX9_mark 8 (.aload_n 0) 1 9 := ⟨by decide +kernel, rfl⟩
theorem e_X9_mark_9 : kk_d cX9_mark 9 (.getfield 15) 3 12 := ⟨by decide +kernel, rfl⟩
theorem e_X9_mark_12 : kk_d cX9_mark 12 (.iload_n 1) 1 13 := ⟨by decide +kernel, rfl⟩
theorem e_X9_mark_13 : kk_d cX9_mark 13 (.iconst 5) 1 14 := ⟨by decide +kernel, rfl⟩
theorem e_X9_mark_14 : kk_d cX9_mark 14 .ishr 1 15 := ⟨by decide +kernel, rfl⟩
theorem e_X9_mark_15 : kk_d cX9_mark 15 .dup2 1 16 := ⟨by decide +kernel, rfl⟩
theorem e_X9_mark_16 : kk_d cX9_mark 16 .iaload 1 17 := ⟨by decide +kernel, rfl⟩
theorem e_X9_mark_17 : kk_d cX9_mark 17 (.iconst 1) 1 18 := ⟨by decide +kernel, rfl⟩
theorem e_X9_mark_18 : kk_d cX9_mark 18 (.iload_n 1) 1 19 := ⟨by decide +kernel, rfl⟩
theorem e_X9_mark_19 : kk_d cX9_mark 19 (.bipush 31) 2 21 := ⟨by decide +kernel, rfl⟩
theorem e_X9_mark_21 : kk_d cX9_mark 21 .iand 1 22 := ⟨by decide +kernel, rfl⟩
theorem e_X9_mark_22 : kk_d cX9_mark 22 .ishl 1 23 := ⟨by decide +kernel, rfl⟩
theorem e_X9_mark_23 : kk_d cX9_mark 23 .ior 1 24 := ⟨by decide +kernel, rfl⟩
theorem e_X9_mark_24 : kk_d cX9_mark 24 .iastore 1 25 := ⟨by decide +kernel, rfl⟩
theorem e_X9_mark_25 : kk_d cX9_mark 25 (.aload_n 0) 1 26 := ⟨by decide +kernel, rfl⟩
theorem e_X9_mark_26 : kk_d cX9_mark 26 (.getfield 21) 3 29 := ⟨by decide +kernel, rfl⟩
theorem e_X9_mark_29 : kk_d cX9_mark 29 (.iload_n 1) 1 30 := ⟨by decide +kernel, rfl⟩
theorem e_X9_mark_30 : kk_d cX9_mark 30 (.iconst 5) 1 31 := ⟨by decide +kernel, rfl⟩
theorem e_X9_mark_31 : kk_d cX9_mark 31 .ishr 1 32 := ⟨by decide +kernel, rfl⟩
theorem e_X9_mark_32 : kk_d cX9_mark 32 .dup2 1 33 := ⟨by decide +kernel, rfl⟩
theorem e_X9_mark_33 : kk_d cX9_mark 33 .iaload 1 34 := ⟨by decide +kernel, rfl⟩
theorem e_X9_mark_34 : kk_d cX9_mark 34 (.iconst 1) 1 35 := ⟨by decide +kernel, rfl⟩
theorem e_X9_mark_35 : kk_d cX9_mark 35 (.iload_n 1) 1 36 := ⟨by decide +kernel, rfl⟩
theorem e_X9_mark_36 : kk_d cX9_mark 36 (.bipush 31) 2 38 := ⟨by decide +kernel, rfl⟩
theorem e_X9_mark_38 : kk_d cX9_mark 38 .iand 1 39 := ⟨by decide +kernel, rfl⟩
theorem e_X9_mark_39 : kk_d cX9_mark 39 .ishl 1 40 := ⟨by decide +kernel, rfl⟩
theorem e_X9_mark_40 : kk_d cX9_mark 40 .ior 1 41 := ⟨by decide +kernel, rfl⟩
theorem e_X9_mark_41 : kk_d cX9_mark 41 .iastore 1 42 := ⟨by decide +kernel, rfl⟩
set_option maxRecDepth 4000 in
theorem s_X9_mark (Z : kk_Z) (v1 : Int32) (σ : kk_St) (Q : kk_St → Prop) (h : f_X9_mark v1 σ Q) : kk_M Z sh_C yX9_mark cX9_mark 2 none (kk_R 3) [.ref (Z.2.1 10), .int v1] σ (kk_Qv Z sh_C Q) := by
  unfold f_X9_mark at h
  refine kk_met (own := RX9) (by decide) rfl (Nat.le_of_ble_eq_true rfl) rfl ?_
  refine kk_aload_n 0 rfl e_X9_mark_0 ?_
  refine kk_iload_n 1 rfl e_X9_mark_1 ?_
  refine kk_callVip (As := [.int v1]) (rest := []) e_X9_mark_2 ml_X9_50 ⟨_, _, _, _, rfl, rfl⟩ rfl (kk_fitR (by decide) (by decide)) (Nat.le_of_ble_eq_true rfl) rfl (s_X9_isSeen Z v1 σ _ h) (fun r_1 h => ?_)
  refine kk_jW1 (P := fun (σ_2 : kk_St) => KK Z sh_C RX9 cX9_mark 2 none (kk_R 3) (kk_Qv Z sh_C Q) 42 [] [] σ_2) h ?_ ?_
  · intro σ_2 h
    exact kk_vret e_X9_mark_42 h
  · intro J_3 hJ_3 h
    refine kk_if_ne e_X9_mark_5 (fun c_6 => ?_) (fun c_6 => ?_)
    · replace h := h.1 c_6
      exact kk_sub [] rfl (hJ_3 σ h)
    · replace h := h.2 c_6
      refine kk_aload_n 0 rfl e_X9_mark_8 ?_
      refine kk_getr e_X9_mark_9 fl_X9_15 rfl rfl ?_
      refine kk_iload_n 1 rfl e_X9_mark_12 ?_
      refine kk_iconst ic_5 e_X9_mark_13 ?_
      refine kk_ishr e_X9_mark_14 ?_
      refine kk_dup2 rfl rfl e_X9_mark_15 ?_
      refine kk_iald e_X9_mark_16 rfl h.1 ?_
      replace h := h.2
      refine kk_iconst ic_1 e_X9_mark_17 ?_
      refine kk_iload_n 1 rfl e_X9_mark_18 ?_
      refine kk_bipush bp_31 e_X9_mark_19 ?_
      refine kk_iand e_X9_mark_21 ?_
      refine kk_ishl e_X9_mark_22 ?_
      refine kk_ior e_X9_mark_23 ?_
      refine kk_iast e_X9_mark_24 rfl h.1 ?_
      replace h := h.2
      refine kk_tops (fun σ_4 eσ_4 => ?_)
      replace h := h σ_4 eσ_4
      refine kk_aload_n 0 rfl e_X9_mark_25 ?_
      refine kk_getr e_X9_mark_26 fl_X9_21 rfl rfl ?_
      refine kk_iload_n 1 rfl e_X9_mark_29 ?_
      refine kk_iconst ic_5 e_X9_mark_30 ?_
      refine kk_ishr e_X9_mark_31 ?_
      refine kk_dup2 rfl rfl e_X9_mark_32 ?_
      refine kk_iald e_X9_mark_33 rfl h.1 ?_
      replace h := h.2
      refine kk_iconst ic_1 e_X9_mark_34 ?_
      refine kk_iload_n 1 rfl e_X9_mark_35 ?_
      refine kk_bipush bp_31 e_X9_mark_36 ?_
      refine kk_iand e_X9_mark_38 ?_
      refine kk_ishl e_X9_mark_39 ?_
      refine kk_ior e_X9_mark_40 ?_
      refine kk_iast e_X9_mark_41 rfl h.1 ?_
      replace h := h.2
      refine kk_tops (fun σ_5 eσ_5 => ?_)
      replace h := h σ_5 eσ_5
      exact kk_sub [] rfl (hJ_3 σ_5 h)
theorem e_X9_joinedIn_0 : kk_d cX9_joinedIn 0 (.iload_n 1) 1 1 := ⟨by decide +kernel, rfl⟩
theorem e_X9_joinedIn_1 : kk_d cX9_joinedIn 1 (.istore_n 3) 1 2 := ⟨by decide +kernel, rfl⟩
theorem e_X9_joinedIn_2 : kk_d cX9_joinedIn 2 (.iload_n 1) 1 3 := ⟨by decide +kernel, rfl⟩
theorem e_X9_joinedIn_3 : kk_d cX9_joinedIn 3 (.istore 4) 2 5 := ⟨by decide +kernel, rfl⟩
theorem e_X9_joinedIn_5 : kk_d cX9_joinedIn 5 (.iconst 0) 1 6 := ⟨by decide +kernel, rfl⟩
theorem e_X9_joinedIn_6 : kk_d cX9_joinedIn 6 (.istore 5) 2 8 := ⟨by decide +kernel, rfl⟩
theorem e_X9_joinedIn_70 : kk_d cX9_joinedIn 70 (.iload_n 3) 1 71 := ⟨by decide +kernel, rfl⟩
theorem e_X9_joinedIn_71 : kk_d cX9_joinedIn 71 .ireturn 1 72 := ⟨by decide +kernel, rfl⟩
theorem e_X9_joinedIn_8 : kk_d cX9_joinedIn 8 (.iload 5) 2 10 := ⟨by decide +kernel, rfl⟩
theorem e_X9_joinedIn_10 : kk_d cX9_joinedIn 10 (.bipush 6) 2 12 := ⟨by decide +kernel, rfl⟩
theorem e_X9_joinedIn_12 : kk_dj cX9_joinedIn 12 (.if_icmp .ge 58) 3 (58) 15 70 := ⟨by decide +kernel, rfl, by decide⟩
theorem e_X9_joinedIn_15 : kk_d cX9_joinedIn 15 (.iload 4) 2 17 := ⟨by decide +kernel, rfl⟩
theorem e_X9_joinedIn_17 : kk_dj cX9_joinedIn 17 (.ifCond .eq 53) 3 (53) 20 70 := ⟨by decide +kernel, rfl, by decide⟩
theorem e_X9_joinedIn_20 : kk_d cX9_joinedIn 20 (.iload 4) 2 22 := ⟨by decide +kernel, rfl⟩
theorem e_X9_joinedIn_22 : kk_d cX9_joinedIn 22 (.invokestatic 92) 3 25 := ⟨by decide +kernel, rfl⟩
theorem e_X9_joinedIn_25 : kk_d cX9_joinedIn 25 (.istore 6) 2 27 := ⟨by decide +kernel, rfl⟩
theorem e_X9_joinedIn_27 : kk_d cX9_joinedIn 27 (.aload_n 0) 1 28 := ⟨by decide +kernel, rfl⟩
theorem e_X9_joinedIn_28 : kk_d cX9_joinedIn 28 (.getfield 11) 3 31 := ⟨by decide +kernel, rfl⟩
theorem e_X9_joinedIn_31 : kk_d cX9_joinedIn 31 (.iload 6) 2 33 := ⟨by decide +kernel, rfl⟩
theorem e_X9_joinedIn_33 : kk_d cX9_joinedIn 33 (.invokestatic 100) 3 36 := ⟨by decide +kernel, rfl⟩
theorem e_X9_joinedIn_36 : kk_d cX9_joinedIn 36 (.iconst 2) 1 37 := ⟨by decide +kernel, rfl⟩
theorem e_X9_joinedIn_37 : kk_d cX9_joinedIn 37 .idiv 1 38 := ⟨by decide +kernel, rfl⟩
theorem e_X9_joinedIn_38 : kk_d cX9_joinedIn 38 .iaload 1 39 := ⟨by decide +kernel, rfl⟩
theorem e_X9_joinedIn_39 : kk_d cX9_joinedIn 39 (.iload_n 2) 1 40 := ⟨by decide +kernel, rfl⟩
theorem e_X9_joinedIn_40 : kk_d cX9_joinedIn 40 .iand 1 41 := ⟨by decide +kernel, rfl⟩
theorem e_X9_joinedIn_41 : kk_d cX9_joinedIn 41 (.iload_n 3) 1 42 := ⟨by decide +kernel, rfl⟩
theorem e_X9_joinedIn_42 : kk_d cX9_joinedIn 42 (.iconst (-1)) 1 43 := ⟨by decide +kernel, rfl⟩
theorem e_X9_joinedIn_43 : kk_d cX9_joinedIn 43 .ixor 1 44 := ⟨by decide +kernel, rfl⟩
theorem e_X9_joinedIn_44 : kk_d cX9_joinedIn 44 .iand 1 45 := ⟨by decide +kernel, rfl⟩
theorem e_X9_joinedIn_45 : kk_d cX9_joinedIn 45 (.istore 7) 2 47 := ⟨by decide +kernel, rfl⟩
theorem e_X9_joinedIn_47 : kk_d cX9_joinedIn 47 (.iload_n 3) 1 48 := ⟨by decide +kernel, rfl⟩
theorem e_X9_joinedIn_48 : kk_d cX9_joinedIn 48 (.iload 7) 2 50 := ⟨by decide +kernel, rfl⟩
theorem e_X9_joinedIn_50 : kk_d cX9_joinedIn 50 .ior 1 51 := ⟨by decide +kernel, rfl⟩
theorem e_X9_joinedIn_51 : kk_d cX9_joinedIn 51 (.istore_n 3) 1 52 := ⟨by decide +kernel, rfl⟩
theorem e_X9_joinedIn_52 : kk_d cX9_joinedIn 52 (.iload 4) 2 54 := ⟨by decide +kernel, rfl⟩
theorem e_X9_joinedIn_54 : kk_d cX9_joinedIn 54 (.iload 6) 2 56 := ⟨by decide +kernel, rfl⟩
theorem e_X9_joinedIn_56 : kk_d cX9_joinedIn 56 (.iconst (-1)) 1 57 := ⟨by decide +kernel, rfl⟩
theorem e_X9_joinedIn_57 : kk_d cX9_joinedIn 57 .ixor 1 58 := ⟨by decide +kernel, rfl⟩
theorem e_X9_joinedIn_58 : kk_d cX9_joinedIn 58 .iand 1 59 := ⟨by decide +kernel, rfl⟩
theorem e_X9_joinedIn_59 : kk_d cX9_joinedIn 59 (.iload 7) 2 61 := ⟨by decide +kernel, rfl⟩
theorem e_X9_joinedIn_61 : kk_d cX9_joinedIn 61 .ior 1 62 := ⟨by decide +kernel, rfl⟩
theorem e_X9_joinedIn_62 : kk_d cX9_joinedIn 62 (.istore 4) 2 64 := ⟨by decide +kernel, rfl⟩
theorem e_X9_joinedIn_64 : kk_d cX9_joinedIn 64 (.iinc 5 1) 3 67 := ⟨by decide +kernel, rfl⟩
theorem e_X9_joinedIn_67 : kk_dj cX9_joinedIn 67 (.goto (-59)) 3 (-59) 70 8 := ⟨by decide +kernel, rfl, by decide⟩
set_option maxRecDepth 4000 in
theorem s_X9_joinedIn (Z : kk_Z) (v1 : Int32) (v2 : Int32) (σ : kk_St) (Q : Int32 → Prop) (h : f_X9_joinedIn v1 v2 σ Q) : kk_M Z sh_C yX9_joinedIn cX9_joinedIn 8 (some .int) (kk_R 3) [.ref (Z.2.1 10), .int v1, .int v2] σ (kk_Qi Z sh_C (fun r σ' => σ' = σ ∧ Q r)) := by
  unfold f_X9_joinedIn at h
  refine kk_met (own := RX9) (by decide) rfl (Nat.le_of_ble_eq_true rfl) rfl ?_
  refine kk_iload_n 1 rfl e_X9_joinedIn_0 ?_
  refine kk_istore_n (lv' := [(3, .int v1), (0, .ref (Z.2.1 10)), (1, .int v1), (2, .int v2)]) e_X9_joinedIn_1 rfl (by decide) rfl ?_
  refine kk_iload_n 2 rfl e_X9_joinedIn_2 ?_
  refine kk_istore (lv' := [(4, .int v1), (3, .int v1), (0, .ref (Z.2.1 10)), (1, .int v1), (2, .int v2)]) e_X9_joinedIn_3 (by decide) rfl ?_
  refine kk_iconst ic_0 e_X9_joinedIn_5 ?_
  refine kk_istore (lv' := [(5, .int (0 : Int32)), (4, .int v1), (3, .int v1), (0, .ref (Z.2.1 10)), (1, .int v1), (2, .int v2)]) e_X9_joinedIn_6 (by decide) rfl ?_
  refine kk_jW1 (P := fun (v3_1 : Int32) => KK Z sh_C RX9 cX9_joinedIn 8 (some .int) (kk_R 3) (kk_Qi Z sh_C (fun r σ' => σ' = σ ∧ Q r)) 70 [(3, .int v3_1)] [] σ) h ?_ ?_
  · intro v3_1 h
    refine kk_iload_n 0 rfl e_X9_joinedIn_70 ?_
    exact kk_iret e_X9_joinedIn_71 ⟨rfl, h⟩
  · intro J_2 hJ_2 h
    refine kk_sub [3, 5, 2, 1, 0] rfl ?_
    refine kk_lpW3 (P := fun (v3_3 : Int32) (v4_4 : Int32) (v5_5 : Int32) => KK Z sh_C RX9 cX9_joinedIn 8 (some .int) (kk_R 3) (kk_Qi Z sh_C (fun r σ' => σ' = σ ∧ Q r)) 8 [(0, .ref (Z.2.1 10)), (2, .int v2), (3, .int v3_3), (4, .int v4_4), (5, .int v5_5)] [] σ) ?_ h
    intro rec_6 hrec_6 v3_3 v4_4 v5_5 h
    refine kk_iload 4 rfl e_X9_joinedIn_8 ?_
    refine kk_bipush bp_6 e_X9_joinedIn_10 ?_
    refine kk_icmp_ge e_X9_joinedIn_12 (fun c_12 => ?_) (fun c_12 => ?_)
    · replace h := h.1 c_12
      exact kk_sub [2] rfl (hJ_2 v3_3 h)
    · replace h := h.2 c_12
      refine kk_iload 3 rfl e_X9_joinedIn_15 ?_
      refine kk_if_eq e_X9_joinedIn_17 (fun c_11 => ?_) (fun c_11 => ?_)
      · replace h := h.1 c_11
        exact kk_sub [2] rfl (hJ_2 v3_3 h)
      · replace h := h.2 c_11
        refine kk_iload 3 rfl e_X9_joinedIn_20 ?_
        refine kk_callSip (As := [.int v4_4]) (rest := []) e_X9_joinedIn_22 ml_X9_92 rfl (kk_fitR (by decide) (by decide)) (Nat.le_of_ble_eq_true rfl) rfl (s_J6_lowestOneBit_0f7a4 Z v4_4 σ _ h) (fun r_7 h => ?_)
        refine kk_istore (lv' := [(6, .int r_7), (0, .ref (Z.2.1 10)), (2, .int v2), (3, .int v3_3), (4, .int v4_4), (5, .int v5_5)]) e_X9_joinedIn_25 (by decide) rfl ?_
        refine kk_aload_n 1 rfl e_X9_joinedIn_27 ?_
        refine kk_getr e_X9_joinedIn_28 fl_X9_11 rfl rfl ?_
        refine kk_iload 0 rfl e_X9_joinedIn_31 ?_
        refine kk_callSip (As := [.int r_7]) (rest := [.ref (Z.2.1 27)]) e_X9_joinedIn_33 ml_X9_100 rfl (kk_fitR (by decide) (by decide)) (Nat.le_of_ble_eq_true rfl) rfl (s_J6_numberOfTrailingZeros_0f7a4 Z r_7 σ _ h) (fun r_8 h => ?_)
        refine kk_iconst ic_2 e_X9_joinedIn_36 ?_
        refine kk_idiv nz_2 e_X9_joinedIn_37 ?_
        refine kk_iald e_X9_joinedIn_38 rfl h.1 ?_
        replace h := h.2
        refine kk_iload_n 2 rfl e_X9_joinedIn_39 ?_
        refine kk_iand e_X9_joinedIn_40 ?_
        refine kk_iload_n 3 rfl e_X9_joinedIn_41 ?_
        refine kk_iconst ic_m1 e_X9_joinedIn_42 ?_
        refine kk_ixor e_X9_joinedIn_43 ?_
        refine kk_iand e_X9_joinedIn_44 ?_
        refine kk_topi (fun v7_9 ev7_9 => ?_)
        replace h := h v7_9 ev7_9
        refine kk_istore (lv' := [(7, .int v7_9), (6, .int r_7), (0, .ref (Z.2.1 10)), (2, .int v2), (3, .int v3_3), (4, .int v4_4), (5, .int v5_5)]) e_X9_joinedIn_45 (by decide) rfl ?_
        refine kk_iload_n 4 rfl e_X9_joinedIn_47 ?_
        refine kk_iload 0 rfl e_X9_joinedIn_48 ?_
        refine kk_ior e_X9_joinedIn_50 ?_
        refine kk_istore_n (lv' := [(3, .int (v3_3 ||| v7_9)), (7, .int v7_9), (6, .int r_7), (0, .ref (Z.2.1 10)), (2, .int v2), (4, .int v4_4), (5, .int v5_5)]) e_X9_joinedIn_51 rfl (by decide) rfl ?_
        refine kk_iload 5 rfl e_X9_joinedIn_52 ?_
        refine kk_iload 2 rfl e_X9_joinedIn_54 ?_
        refine kk_iconst ic_m1 e_X9_joinedIn_56 ?_
        refine kk_ixor e_X9_joinedIn_57 ?_
        refine kk_iand e_X9_joinedIn_58 ?_
        refine kk_iload 1 rfl e_X9_joinedIn_59 ?_
        refine kk_ior e_X9_joinedIn_61 ?_
        refine kk_topi (fun v4_10 ev4_10 => ?_)
        replace h := h v4_10 ev4_10
        refine kk_istore (lv' := [(4, .int v4_10), (3, .int (v3_3 ||| v7_9)), (7, .int v7_9), (6, .int r_7), (0, .ref (Z.2.1 10)), (2, .int v2), (5, .int v5_5)]) e_X9_joinedIn_62 (by decide) rfl ?_
        refine kk_iinc (lv' := [(5, .int (v5_5 + (1 : Int32))), (4, .int v4_10), (3, .int (v3_3 ||| v7_9)), (7, .int v7_9), (6, .int r_7), (0, .ref (Z.2.1 10)), (2, .int v2)]) e_X9_joinedIn_64 (j := 6) rfl (ii_1 v5_5) (by decide) rfl ?_
        refine kk_goto e_X9_joinedIn_67 ?_
        exact kk_sub [5, 6, 2, 1, 0] rfl (hrec_6 (v3_3 ||| v7_9) v4_10 (v5_5 + (1 : Int32)) h)
theorem e_X9_turnEach_0 : kk_d cX9_turnEach 0 (.iconst 0) 1 1 := ⟨by decide +kernel, rfl⟩
theorem e_X9_turnEach_1 : kk_d cX9_turnEach 1 (.istore_n 2) 1 2 := ⟨by decide +kernel, rfl⟩
theorem e_X9_turnEach_2 : kk_d cX9_turnEach 2 (.iload_n 2) 1 3 := ⟨by decide +kernel, rfl⟩
theorem e_X9_turnEach_3 : kk_d cX9_turnEach 3 (.aload_n 0) 1 4 := ⟨by decide +kernel, rfl⟩
theorem e_X9_turnEach_4 : kk_d cX9_turnEach 4 (.getfield 24) 3 7 := ⟨by decide +kernel, rfl⟩
theorem e_X9_turnEach_7 : kk_dj cX9_turnEach 7 (.if_icmp .ge 101) 3 (101) 10 108 := ⟨by decide +kernel, rfl, by decide⟩
theorem e_X9_turnEach_108 : kk_d cX9_turnEach 108 .return_ 1 109 := ⟨by decide +kernel, rfl⟩
theorem e_X9_turnEach_10 : kk_d cX9_turnEach 10 (.iload_n 2) 1 11 := ⟨by decide +kernel, rfl⟩
theorem e_X9_turnEach_11 : kk_d cX9_turnEach 11 (.iconst 1) 1 12 := ⟨by decide +kernel, rfl⟩
theorem e_X9_turnEach_12 : kk_d cX9_turnEach 12 .iadd 1 13 := ⟨by decide +kernel, rfl⟩
theorem e_X9_turnEach_13 : kk_d cX9_turnEach 13 (.istore_n 3) 1 14 := ⟨by decide +kernel, rfl⟩
theorem e_X9_turnEach_14 : kk_d cX9_turnEach 14 (.iload_n 3) 1 15 := ⟨by decide +kernel, rfl⟩
theorem e_X9_turnEach_15 : kk_d cX9_turnEach 15 (.aload_n 0) 1 16 := ⟨by decide +kernel, rfl⟩
theorem e_X9_turnEach_16 : kk_d cX9_turnEach 16 (.getfield 24) 3 19 := ⟨by decide +kernel, rfl⟩
theorem e_X9_turnEach_19 : kk_dj cX9_turnEach 19 (.if_icmp .ge 83) 3 (83) 22 102 := ⟨by decide +kernel, rfl, by decide⟩
theorem e_X9_turnEach_102 : kk_d cX9_turnEach 102 (.iinc 2 1) 3 105 := ⟨by decide +kernel, rfl⟩
theorem e_X9_turnEach_105 : kk_dj cX9_turnEach 105 (.goto (-103)) 3 (-103) 108 2 := ⟨by decide +kernel, rfl, by decide⟩
theorem e_X9_turnEach_22 : kk_d cX9_turnEach 22 (.aload_n 0) 1 23 := ⟨by decide +kernel, rfl⟩
theorem e_X9_turnEach_23 : kk_d cX9_turnEach 23 (.iload_n 1) 1 24 := ⟨by decide +kernel, rfl⟩
theorem e_X9_turnEach_24 : kk_d cX9_turnEach 24 (.iload_n 2) 1 25 := ⟨by decide +kernel, rfl⟩
theorem e_X9_turnEach_25 : kk_d cX9_turnEach 25 (.invokevirtual 79) 3 28 := ⟨by decide +kernel, rfl⟩
theorem e_X9_turnEach_28 : kk_d cX9_turnEach 28 (.aload_n 0) 1 29 := ⟨by decide +kernel, rfl⟩
theorem e_X9_turnEach_29 : kk_d cX9_turnEach 29 (.iload_n 1) 1 30 := ⟨by decide +kernel, rfl⟩
theorem e_X9_turnEach_30 : kk_d cX9_turnEach 30 (.iload_n 3) 1 31 := ⟨by decide +kernel, rfl⟩
theorem e_X9_turnEach_31 : kk_d cX9_turnEach 31 (.invokevirtual 79) 3 34 := ⟨by decide +kernel, rfl⟩
theorem e_X9_turnEach_34 : kk_d cX9_turnEach 34 .ior 1 35 := ⟨by decide +kernel, rfl⟩
theorem e_X9_turnEach_35 : kk_d cX9_turnEach 35 (.istore 4) 2 37 := ⟨by decide +kernel, rfl⟩
theorem e_X9_turnEach_37 : kk_d cX9_turnEach 37 (.iload 4) 2 39 := ⟨by decide +kernel, rfl⟩
theorem e_X9_turnEach_39 : kk_d cX9_turnEach 39 (.istore 5) 2 41 := ⟨by decide +kernel, rfl⟩
theorem e_X9_turnEach_41 : kk_d cX9_turnEach 41 (.iconst 0) 1 42 := ⟨by decide +kernel, rfl⟩
theorem e_X9_turnEach_42 : kk_d cX9_turnEach 42 (.istore 6) 2 44 := ⟨by decide +kernel, rfl⟩
theorem e_X9_turnEach_96 : kk_d cX9_turnEach 96 (.iinc 3 1) 3 99 := ⟨by decide +kernel, rfl⟩
theorem e_X9_turnEach_99 : kk_dj cX9_turnEach 99 (.goto (-85)) 3 (-85) 102 14 := ⟨by decide +kernel, rfl, by decide⟩
theorem e_X9_turnEach_44 : kk_d cX9_turnEach 44 (.iload 6) 2 46 := ⟨by decide +kernel, rfl⟩
theorem e_X9_turnEach_46 : kk_d cX9_turnEach 46 (.bipush 6) 2 48 := ⟨by decide +kernel, rfl⟩
theorem e_X9_turnEach_48 : kk_dj cX9_turnEach 48 (.if_icmp .ge 48) 3 (48) 51 96 := ⟨by decide +kernel, rfl, by decide⟩
theorem e_X9_turnEach_51 : kk_d cX9_turnEach 51 (.iload 5) 2 53 := ⟨by decide +kernel, rfl⟩
theorem e_X9_turnEach_53 : kk_dj cX9_turnEach 53 (.ifCond .eq 43) 3 (43) 56 96 := ⟨by decide +kernel, rfl, by decide⟩
theorem e_X9_turnEach_56 : kk_d cX9_turnEach 56 (.aload_n 0) 1 57 := ⟨by decide +kernel, rfl⟩
theorem e_X9_turnEach_57 : kk_d cX9_turnEach 57 (.iload 5) 2 59 := ⟨by decide +kernel, rfl⟩
theorem e_X9_turnEach_59 : kk_d cX9_turnEach 59 (.invokestatic 92) 3 62 := ⟨by decide +kernel, rfl⟩
theorem e_X9_turnEach_62 : kk_d cX9_turnEach 62 (.iload 4) 2 64 := ⟨by decide +kernel, rfl⟩
theorem e_X9_turnEach_64 : kk_d cX9_turnEach 64 (.invokevirtual 97) 3 67 := ⟨by decide +kernel, rfl⟩
theorem e_X9_turnEach_67 : kk_d cX9_turnEach 67 (.istore 7) 2 69 := ⟨by decide +kernel, rfl⟩
theorem e_X9_turnEach_69 : kk_d cX9_turnEach 69 (.iload 5) 2 71 := ⟨by decide +kernel, rfl⟩
theorem e_X9_turnEach_71 : kk_d cX9_turnEach 71 (.iload 7) 2 73 := ⟨by decide +kernel, rfl⟩
theorem e_X9_turnEach_73 : kk_d cX9_turnEach 73 (.iconst (-1)) 1 74 := ⟨by decide +kernel, rfl⟩
theorem e_X9_turnEach_74 : kk_d cX9_turnEach 74 .ixor 1 75 := ⟨by decide +kernel, rfl⟩
theorem e_X9_turnEach_75 : kk_d cX9_turnEach 75 .iand 1 76 := ⟨by decide +kernel, rfl⟩
theorem e_X9_turnEach_76 : kk_d cX9_turnEach 76 (.istore 5) 2 78 := ⟨by decide +kernel, rfl⟩
theorem e_X9_turnEach_78 : kk_d cX9_turnEach 78 (.aload_n 0) 1 79 := ⟨by decide +kernel, rfl⟩
theorem e_X9_turnEach_79 : kk_d cX9_turnEach 79 (.iload_n 1) 1 80 := ⟨by decide +kernel, rfl⟩
theorem e_X9_turnEach_80 : kk_d cX9_turnEach 80 (.iload 7) 2 82 := ⟨by decide +kernel, rfl⟩
theorem e_X9_turnEach_82 : kk_d cX9_turnEach 82 (.iload_n 2) 1 83 := ⟨by decide +kernel, rfl⟩
theorem e_X9_turnEach_83 : kk_d cX9_turnEach 83 (.iload_n 3) 1 84 := ⟨by decide +kernel, rfl⟩
theorem e_X9_turnEach_84 : kk_d cX9_turnEach 84 .ixor 1 85 := ⟨by decide +kernel, rfl⟩
theorem e_X9_turnEach_85 : kk_d cX9_turnEach 85 .imul 1 86 := ⟨by decide +kernel, rfl⟩
theorem e_X9_turnEach_86 : kk_d cX9_turnEach 86 .ixor 1 87 := ⟨by decide +kernel, rfl⟩
theorem e_X9_turnEach_87 : kk_d cX9_turnEach 87 (.invokevirtual 47) 3 90 := ⟨by decide +kernel, rfl⟩
theorem e_X9_turnEach_90 : kk_d cX9_turnEach 90 (.iinc 6 1) 3 93 := ⟨by decide +kernel, rfl⟩
theorem e_X9_turnEach_93 : kk_dj cX9_turnEach 93 (.goto (-49)) 3 (-49) 96 44 := ⟨by decide +kernel, rfl, by decide⟩
set_option maxRecDepth 4000 in
theorem s_X9_turnEach (Z : kk_Z) (v1 : Int32) (σ : kk_St) (Q : kk_St → Prop) (h : f_X9_turnEach v1 σ Q) : kk_M Z sh_C yX9_turnEach cX9_turnEach 8 none (kk_R 4) [.ref (Z.2.1 10), .int v1] σ (kk_Qv Z sh_C Q) := by
  unfold f_X9_turnEach at h
  refine kk_met (own := RX9) (by decide) rfl (Nat.le_of_ble_eq_true rfl) rfl ?_
  refine kk_iconst ic_0 e_X9_turnEach_0 ?_
  refine kk_istore_n (lv' := [(2, .int (0 : Int32)), (0, .ref (Z.2.1 10)), (1, .int v1)]) e_X9_turnEach_1 rfl (by decide) rfl ?_
  refine kk_sub [1, 2, 0] rfl ?_
  refine kk_lpW2 (P := fun (v2_1 : Int32) (σ_2 : kk_St) => KK Z sh_C RX9 cX9_turnEach 8 none (kk_R 4) (kk_Qv Z sh_C Q) 2 [(0, .ref (Z.2.1 10)), (1, .int v1), (2, .int v2_1)] [] σ_2) ?_ h
  intro rec_3 hrec_3 v2_1 σ_2 h
  refine kk_iload_n 2 rfl e_X9_turnEach_2 ?_
  refine kk_aload_n 0 rfl e_X9_turnEach_3 ?_
  refine kk_geti e_X9_turnEach_4 fl_X9_24 rfl rfl ?_
  refine kk_icmp_ge e_X9_turnEach_7 (fun c_22 => ?_) (fun c_22 => ?_)
  · replace h := h.1 c_22
    exact kk_vret e_X9_turnEach_108 h
  · replace h := h.2 c_22
    refine kk_iload_n 2 rfl e_X9_turnEach_10 ?_
    refine kk_iconst ic_1 e_X9_turnEach_11 ?_
    refine kk_iadd e_X9_turnEach_12 ?_
    refine kk_istore_n (lv' := [(3, .int (v2_1 + (1 : Int32))), (0, .ref (Z.2.1 10)), (1, .int v1), (2, .int v2_1)]) e_X9_turnEach_13 rfl (by decide) rfl ?_
    refine kk_sub [1, 2, 3, 0] rfl ?_
    refine kk_lpW2 (P := fun (v3_4 : Int32) (σ_5 : kk_St) => KK Z sh_C RX9 cX9_turnEach 8 none (kk_R 4) (kk_Qv Z sh_C Q) 14 [(0, .ref (Z.2.1 10)), (1, .int v1), (2, .int v2_1), (3, .int v3_4)] [] σ_5) ?_ h
    intro rec_6 hrec_6 v3_4 σ_5 h
    refine kk_iload_n 3 rfl e_X9_turnEach_14 ?_
    refine kk_aload_n 0 rfl e_X9_turnEach_15 ?_
    refine kk_geti e_X9_turnEach_16 fl_X9_24 rfl rfl ?_
    refine kk_icmp_ge e_X9_turnEach_19 (fun c_21 => ?_) (fun c_21 => ?_)
    · replace h := h.1 c_21
      refine kk_iinc (lv' := [(2, .int (v2_1 + (1 : Int32))), (0, .ref (Z.2.1 10)), (1, .int v1), (3, .int v3_4)]) e_X9_turnEach_102 (j := 2) rfl (ii_1 v2_1) (by decide) rfl ?_
      refine kk_goto e_X9_turnEach_105 ?_
      exact kk_sub [1, 2, 0] rfl (hrec_3 (v2_1 + (1 : Int32)) σ_5 h)
    · replace h := h.2 c_21
      refine kk_aload_n 0 rfl e_X9_turnEach_22 ?_
      refine kk_iload_n 1 rfl e_X9_turnEach_23 ?_
      refine kk_iload_n 2 rfl e_X9_turnEach_24 ?_
      refine kk_callVip (As := [.int v1, .int v2_1]) (rest := []) e_X9_turnEach_25 ml_X9_79 ⟨_, _, _, _, rfl, rfl⟩ rfl (kk_fitR (by decide) (by decide)) (Nat.le_of_ble_eq_true rfl) rfl (s_X9_linesWith Z v1 v2_1 σ_5 _ h) (fun r_7 h => ?_)
      refine kk_aload_n 0 rfl e_X9_turnEach_28 ?_
      refine kk_iload_n 1 rfl e_X9_turnEach_29 ?_
      refine kk_iload_n 3 rfl e_X9_turnEach_30 ?_
      refine kk_callVip (As := [.int v1, .int v3_4]) (rest := [.int r_7]) e_X9_turnEach_31 ml_X9_79 ⟨_, _, _, _, rfl, rfl⟩ rfl (kk_fitR (by decide) (by decide)) (Nat.le_of_ble_eq_true rfl) rfl (s_X9_linesWith Z v1 v3_4 σ_5 _ h) (fun r_8 h => ?_)
      refine kk_ior e_X9_turnEach_34 ?_
      refine kk_istore (lv' := [(4, .int (r_7 ||| r_8)), (0, .ref (Z.2.1 10)), (1, .int v1), (2, .int v2_1), (3, .int v3_4)]) e_X9_turnEach_35 (by decide) rfl ?_
      refine kk_iload 0 rfl e_X9_turnEach_37 ?_
      refine kk_istore (lv' := [(5, .int (r_7 ||| r_8)), (4, .int (r_7 ||| r_8)), (0, .ref (Z.2.1 10)), (1, .int v1), (2, .int v2_1), (3, .int v3_4)]) e_X9_turnEach_39 (by decide) rfl ?_
      refine kk_iconst ic_0 e_X9_turnEach_41 ?_
      refine kk_istore (lv' := [(6, .int (0 : Int32)), (5, .int (r_7 ||| r_8)), (4, .int (r_7 ||| r_8)), (0, .ref (Z.2.1 10)), (1, .int v1), (2, .int v2_1), (3, .int v3_4)]) e_X9_turnEach_42 (by decide) rfl ?_
      refine kk_jW1 (P := fun (σ_9 : kk_St) => KK Z sh_C RX9 cX9_turnEach 8 none (kk_R 4) (kk_Qv Z sh_C Q) 96 [(0, .ref (Z.2.1 10)), (1, .int v1), (2, .int v2_1), (3, .int v3_4)] [] σ_9) h ?_ ?_
      · intro σ_9 h
        refine kk_iinc (lv' := [(3, .int (v3_4 + (1 : Int32))), (0, .ref (Z.2.1 10)), (1, .int v1), (2, .int v2_1)]) e_X9_turnEach_96 (j := 3) rfl (ii_1 v3_4) (by decide) rfl ?_
        refine kk_goto e_X9_turnEach_99 ?_
        exact kk_sub [1, 2, 3, 0] rfl (hrec_6 (v3_4 + (1 : Int32)) σ_9 h)
      · intro J_10 hJ_10 h
        refine kk_sub [3, 4, 5, 6, 2, 1, 0] rfl ?_
        refine kk_lpW3 (P := fun (v5_11 : Int32) (v6_12 : Int32) (σ_13 : kk_St) => KK Z sh_C RX9 cX9_turnEach 8 none (kk_R 4) (kk_Qv Z sh_C Q) 44 [(0, .ref (Z.2.1 10)), (1, .int v1), (2, .int v2_1), (3, .int v3_4), (4, .int (r_7 ||| r_8)), (5, .int v5_11), (6, .int v6_12)] [] σ_13) ?_ h
        intro rec_14 hrec_14 v5_11 v6_12 σ_13 h
        refine kk_iload 6 rfl e_X9_turnEach_44 ?_
        refine kk_bipush bp_6 e_X9_turnEach_46 ?_
        refine kk_icmp_ge e_X9_turnEach_48 (fun c_20 => ?_) (fun c_20 => ?_)
        · replace h := h.1 c_20
          exact kk_sub [0, 1, 2, 3] rfl (hJ_10 σ_13 h)
        · replace h := h.2 c_20
          refine kk_iload 5 rfl e_X9_turnEach_51 ?_
          refine kk_if_eq e_X9_turnEach_53 (fun c_19 => ?_) (fun c_19 => ?_)
          · replace h := h.1 c_19
            exact kk_sub [0, 1, 2, 3] rfl (hJ_10 σ_13 h)
          · replace h := h.2 c_19
            refine kk_aload_n 0 rfl e_X9_turnEach_56 ?_
            refine kk_iload 5 rfl e_X9_turnEach_57 ?_
            refine kk_callSip (As := [.int v5_11]) (rest := [.ref (Z.2.1 10)]) e_X9_turnEach_59 ml_X9_92 rfl (kk_fitR (by decide) (by decide)) (Nat.le_of_ble_eq_true rfl) rfl (s_J6_lowestOneBit_0f7a4 Z v5_11 σ_13 _ h) (fun r_15 h => ?_)
            refine kk_iload 4 rfl e_X9_turnEach_62 ?_
            refine kk_callVip (As := [.int r_15, .int (r_7 ||| r_8)]) (rest := []) e_X9_turnEach_64 ml_X9_97 ⟨_, _, _, _, rfl, rfl⟩ rfl (kk_fitR (by decide) (by decide)) (Nat.le_of_ble_eq_true rfl) rfl (s_X9_joinedIn Z r_15 (r_7 ||| r_8) σ_13 _ h) (fun r_16 h => ?_)
            refine kk_istore (lv' := [(7, .int r_16), (0, .ref (Z.2.1 10)), (1, .int v1), (2, .int v2_1), (3, .int v3_4), (4, .int (r_7 ||| r_8)), (5, .int v5_11), (6, .int v6_12)]) e_X9_turnEach_67 (by decide) rfl ?_
            refine kk_iload 6 rfl e_X9_turnEach_69 ?_
            refine kk_iload 0 rfl e_X9_turnEach_71 ?_
            refine kk_iconst ic_m1 e_X9_turnEach_73 ?_
            refine kk_ixor e_X9_turnEach_74 ?_
            refine kk_iand e_X9_turnEach_75 ?_
            refine kk_topi (fun v5_17 ev5_17 => ?_)
            replace h := h v5_17 ev5_17
            refine kk_istore (lv' := [(5, .int v5_17), (7, .int r_16), (0, .ref (Z.2.1 10)), (1, .int v1), (2, .int v2_1), (3, .int v3_4), (4, .int (r_7 ||| r_8)), (6, .int v6_12)]) e_X9_turnEach_76 (by decide) rfl ?_
            refine kk_aload_n 2 rfl e_X9_turnEach_78 ?_
            refine kk_iload_n 3 rfl e_X9_turnEach_79 ?_
            refine kk_iload 1 rfl e_X9_turnEach_80 ?_
            refine kk_iload_n 4 rfl e_X9_turnEach_82 ?_
            refine kk_iload_n 5 rfl e_X9_turnEach_83 ?_
            refine kk_ixor e_X9_turnEach_84 ?_
            refine kk_imul e_X9_turnEach_85 ?_
            refine kk_ixor e_X9_turnEach_86 ?_
            refine kk_callVv (As := [.int (v1 ^^^ (r_16 * (v2_1 ^^^ v3_4)))]) (rest := []) e_X9_turnEach_87 ml_X9_47 ⟨_, _, _, _, rfl, rfl⟩ rfl (kk_fitR (by decide) (by decide)) (Nat.le_of_ble_eq_true rfl) rfl (s_X9_mark Z (v1 ^^^ (r_16 * (v2_1 ^^^ v3_4))) σ_13 _ h) (fun σ_18 h => ?_)
            refine kk_iinc (lv' := [(6, .int (v6_12 + (1 : Int32))), (5, .int v5_17), (7, .int r_16), (0, .ref (Z.2.1 10)), (1, .int v1), (2, .int v2_1), (3, .int v3_4), (4, .int (r_7 ||| r_8))]) e_X9_turnEach_90 (j := 7) rfl (ii_1 v6_12) (by decide) rfl ?_
            refine kk_goto e_X9_turnEach_93 ?_
            exact kk_sub [3, 4, 5, 6, 7, 1, 0] rfl (hrec_14 v5_17 (v6_12 + (1 : Int32)) σ_18 h)
theorem e_X9_advance_0 : kk_d cX9_advance 0 (.iconst 0) 1 1 := ⟨by decide +kernel, rfl⟩
theorem e_X9_advance_1 : kk_d cX9_advance 1 (.istore_n 1) 1 2 := ⟨by decide +kernel, rfl⟩
theorem e_X9_advance_2 : kk_d cX9_advance 2 (.aload_n 0) 1 3 := ⟨by decide +kernel, rfl⟩
theorem e_X9_advance_3 : kk_d cX9_advance 3 (.getfield 21) 3 6 := ⟨by decide +kernel, rfl⟩
theorem e_X9_advance_6 : kk_d cX9_advance 6 (.iconst 0) 1 7 := ⟨by decide +kernel, rfl⟩
theorem e_X9_advance_7 : kk_d cX9_advance 7 (.aload_n 0) 1 8 := ⟨by decide +kernel, rfl⟩
theorem e_X9_advance_8 : kk_d cX9_advance 8 (.getfield 18) 3 11 := ⟨by decide +kernel, rfl⟩
theorem e_X9_advance_11 : kk_d cX9_advance 11 (.iconst 0) 1 12 := ⟨by decide +kernel, rfl⟩
theorem e_X9_advance_12 : kk_d cX9_advance 12 (.sipush 128) 3 15 := ⟨by decide +kernel, rfl⟩
theorem e_X9_advance_15 : kk_d cX9_advance 15 (.invokestatic 83) 3 18 := ⟨by decide +kernel, rfl⟩
theorem e_X9_advance_18 : kk_d cX9_advance 18 (.aload_n 0) 1 19 := ⟨by decide +kernel, rfl⟩
theorem e_X9_advance_19 : kk_d cX9_advance 19 (.getfield 21) 3 22 := ⟨by decide +kernel, rfl⟩
theorem e_X9_advance_22 : kk_d cX9_advance 22 (.iconst 0) 1 23 := ⟨by decide +kernel, rfl⟩
theorem e_X9_advance_23 : kk_d cX9_advance 23 (.invokestatic 58) 3 26 := ⟨by decide +kernel, rfl⟩
theorem e_X9_advance_26 : kk_d cX9_advance 26 (.iconst 0) 1 27 := ⟨by decide +kernel, rfl⟩
theorem e_X9_advance_27 : kk_d cX9_advance 27 (.istore_n 2) 1 28 := ⟨by decide +kernel, rfl⟩
theorem e_X9_advance_28 : kk_d cX9_advance 28 (.iload_n 2) 1 29 := ⟨by decide +kernel, rfl⟩
theorem e_X9_advance_29 : kk_d cX9_advance 29 (.sipush 128) 3 32 := ⟨by decide +kernel, rfl⟩
theorem e_X9_advance_32 : kk_dj cX9_advance 32 (.if_icmp .ge 56) 3 (56) 35 88 := ⟨by decide +kernel, rfl, by decide⟩
theorem e_X9_advance_88 : kk_d cX9_advance 88 (.iload_n 1) 1 89 := ⟨by decide +kernel, rfl⟩
theorem e_X9_advance_89 : kk_d cX9_advance 89 .ireturn 1 90 := ⟨by decide +kernel, rfl⟩
theorem e_X9_advance_35 : kk_d cX9_advance 35 (.iconst 0) 1 36 := ⟨by decide +kernel, rfl⟩
theorem e_X9_advance_36 : kk_d cX9_advance 36 (.istore_n 3) 1 37 := ⟨by decide +kernel, rfl⟩
theorem e_X9_advance_82 : kk_d cX9_advance 82 (.iinc 2 1) 3 85 := ⟨by decide +kernel, rfl⟩
theorem e_X9_advance_85 : kk_dj cX9_advance 85 (.goto (-57)) 3 (-57) 88 28 := ⟨by decide +kernel, rfl, by decide⟩
theorem e_X9_advance_37 : kk_d cX9_advance 37 (.iload_n 3) 1 38 := ⟨by decide +kernel, rfl⟩
theorem e_X9_advance_38 : kk_d cX9_advance 38 (.bipush 32) 2 40 := ⟨by decide +kernel, rfl⟩
theorem e_X9_advance_40 : kk_dj cX9_advance 40 (.if_icmp .ge 42) 3 (42) 43 82 := ⟨by decide +kernel, rfl, by decide⟩
theorem e_X9_advance_43 : kk_d cX9_advance 43 (.aload_n 0) 1 44 := ⟨by decide +kernel, rfl⟩
theorem e_X9_advance_44 : kk_d cX9_advance 44 (.getfield 18) 3 47 := ⟨by decide +kernel, rfl⟩
theorem e_X9_advance_47 : kk_d cX9_advance 47 (.iload_n 2) 1 48 := ⟨by decide +kernel, rfl⟩
theorem e_X9_advance_48 : kk_d cX9_advance 48 .iaload 1 49 := ⟨by decide +kernel, rfl⟩
theorem e_X9_advance_49 : kk_dj cX9_advance 49 (.ifCond .eq 33) 3 (33) 52 82 := ⟨by decide +kernel, rfl, by decide⟩
theorem e_X9_advance_52 : kk_d cX9_advance 52 (.aload_n 0) 1 53 := ⟨by decide +kernel, rfl⟩
theorem e_X9_advance_53 : kk_d cX9_advance 53 (.getfield 18) 3 56 := ⟨by decide +kernel, rfl⟩
theorem e_X9_advance_56 : kk_d cX9_advance 56 (.iload_n 2) 1 57 := ⟨by decide +kernel, rfl⟩
theorem e_X9_advance_57 : kk_d cX9_advance 57 .iaload 1 58 := ⟨by decide +kernel, rfl⟩
theorem e_X9_advance_58 : kk_d cX9_advance 58 (.iload_n 3) 1 59 := ⟨by decide +kernel, rfl⟩
theorem e_X9_advance_59 : kk_d cX9_advance 59 .ishr 1 60 := ⟨by decide +kernel, rfl⟩
theorem e_X9_advance_60 : kk_d cX9_advance 60 (.iconst 1) 1 61 := ⟨by decide +kernel, rfl⟩
theorem e_X9_advance_61 : kk_d cX9_advance 61 .iand 1 62 := ⟨by decide +kernel, rfl⟩
theorem e_X9_advance_62 : kk_dj cX9_advance 62 (.ifCond .eq 14) 3 (14) 65 76 := ⟨by decide +kernel, rfl, by decide⟩
theorem e_X9_advance_76 : kk_d cX9_advance 76 (.iinc 3 1) 3 79 := ⟨by decide +kernel, rfl⟩
theorem e_X9_advance_79 : kk_dj cX9_advance 79 (.goto (-42)) 3 (-42) 82 37 := ⟨by decide +kernel, rfl, by decide⟩
theorem e_X9_advance_65 : kk_d cX9_advance 65 (.aload_n 0) 1 66 := ⟨by decide +kernel, rfl⟩
theorem e_X9_advance_66 : kk_d cX9_advance 66 (.iload_n 2) 1 67 := ⟨by decide +kernel, rfl⟩
theorem e_X9_advance_67 : kk_d cX9_advance 67 (.iconst 5) 1 68 := ⟨by decide +kernel, rfl⟩
theorem e_X9_advance_68 : kk_d cX9_advance 68 .ishl 1 69 := ⟨by decide +kernel, rfl⟩
theorem e_X9_advance_69 : kk_d cX9_advance 69 (.iload_n 3) 1 70 := ⟨by decide +kernel, rfl⟩
theorem e_X9_advance_70 : kk_d cX9_advance 70 .ior 1 71 := ⟨by decide +kernel, rfl⟩
theorem e_X9_advance_71 : kk_d cX9_advance 71 (.invokevirtual 89) 3 74 := ⟨by decide +kernel, rfl⟩
theorem e_X9_advance_74 : kk_d cX9_advance 74 (.iconst 1) 1 75 := ⟨by decide +kernel, rfl⟩
theorem e_X9_advance_75 : kk_d cX9_advance 75 (.istore_n 1) 1 76 := ⟨by decide +kernel, rfl⟩
set_option maxRecDepth 4000 in
theorem s_X9_advance (Z : kk_Z) (σ : kk_St) (Q : Int32 → kk_St → Prop) (h : f_X9_advance σ Q) : kk_M Z sh_C yX9_advance cX9_advance 4 (some .boolean) (kk_R 5) [.ref (Z.2.1 10)] σ (kk_Qi Z sh_C Q) := by
  unfold f_X9_advance at h
  refine kk_met (own := RX9) (by decide) rfl (Nat.le_of_ble_eq_true rfl) rfl ?_
  refine kk_iconst ic_0 e_X9_advance_0 ?_
  refine kk_istore_n (lv' := [(1, .int (0 : Int32)), (0, .ref (Z.2.1 10))]) e_X9_advance_1 rfl (by decide) rfl ?_
  refine kk_aload_n 1 rfl e_X9_advance_2 ?_
  refine kk_getr e_X9_advance_3 fl_X9_21 rfl rfl ?_
  refine kk_iconst ic_0 e_X9_advance_6 ?_
  refine kk_aload_n 1 rfl e_X9_advance_7 ?_
  refine kk_getr e_X9_advance_8 fl_X9_18 rfl rfl ?_
  refine kk_iconst ic_0 e_X9_advance_11 ?_
  refine kk_sipush sp_128 e_X9_advance_12 ?_
  refine kk_copy e_X9_advance_15 aw_X9_83 aw_native aw_static aw_init rfl rfl (by decide) (by decide) (by decide) ⟨Nat.le_of_ble_eq_true rfl, Nat.le_of_ble_eq_true rfl⟩ ?_
  refine kk_tops (fun σ_1 eσ_1 => ?_)
  replace h := h σ_1 eσ_1
  refine kk_aload_n 1 rfl e_X9_advance_18 ?_
  refine kk_getr e_X9_advance_19 fl_X9_21 rfl rfl ?_
  refine kk_iconst ic_0 e_X9_advance_22 ?_
  refine kk_callSv (As := [.ref (Z.2.1 30), .int (0 : Int32)]) (rest := []) e_X9_advance_23 ml_X9_58 rfl (kk_fitR (by decide) (by decide)) (Nat.le_of_ble_eq_true rfl) rfl (s_J7_fill_53178 Z 30 128 (0 : Int32) σ_1 _ rfl h) (fun σ_2 h => ?_)
  refine kk_iconst ic_0 e_X9_advance_26 ?_
  refine kk_istore_n (lv' := [(2, .int (0 : Int32)), (1, .int (0 : Int32)), (0, .ref (Z.2.1 10))]) e_X9_advance_27 rfl (by decide) rfl ?_
  refine kk_sub [2, 1, 0] rfl ?_
  refine kk_lpW3 (P := fun (v1_3 : Int32) (v2_4 : Int32) (σ_5 : kk_St) => KK Z sh_C RX9 cX9_advance 4 (some .boolean) (kk_R 5) (kk_Qi Z sh_C Q) 28 [(0, .ref (Z.2.1 10)), (1, .int v1_3), (2, .int v2_4)] [] σ_5) ?_ h
  intro rec_6 hrec_6 v1_3 v2_4 σ_5 h
  refine kk_iload_n 2 rfl e_X9_advance_28 ?_
  refine kk_sipush sp_128 e_X9_advance_29 ?_
  refine kk_icmp_ge e_X9_advance_32 (fun c_21 => ?_) (fun c_21 => ?_)
  · replace h := h.1 c_21
    refine kk_iload_n 1 rfl e_X9_advance_88 ?_
    exact kk_zret e_X9_advance_89 h.1 h.2
  · replace h := h.2 c_21
    refine kk_iconst ic_0 e_X9_advance_35 ?_
    refine kk_istore_n (lv' := [(3, .int (0 : Int32)), (0, .ref (Z.2.1 10)), (1, .int v1_3), (2, .int v2_4)]) e_X9_advance_36 rfl (by decide) rfl ?_
    refine kk_jW2 (P := fun (v1_7 : Int32) (σ_8 : kk_St) => KK Z sh_C RX9 cX9_advance 4 (some .boolean) (kk_R 5) (kk_Qi Z sh_C Q) 82 [(0, .ref (Z.2.1 10)), (1, .int v1_7), (2, .int v2_4)] [] σ_8) h ?_ ?_
    · intro v1_7 σ_8 h
      refine kk_iinc (lv' := [(2, .int (v2_4 + (1 : Int32))), (0, .ref (Z.2.1 10)), (1, .int v1_7)]) e_X9_advance_82 (j := 2) rfl (ii_1 v2_4) (by decide) rfl ?_
      refine kk_goto e_X9_advance_85 ?_
      exact kk_sub [1, 2, 0] rfl (hrec_6 v1_7 (v2_4 + (1 : Int32)) σ_8 h)
    · intro J_9 hJ_9 h
      refine kk_sub [1, 2, 3, 0] rfl ?_
      refine kk_lpW3 (P := fun (v1_10 : Int32) (v3_11 : Int32) (σ_12 : kk_St) => KK Z sh_C RX9 cX9_advance 4 (some .boolean) (kk_R 5) (kk_Qi Z sh_C Q) 37 [(0, .ref (Z.2.1 10)), (1, .int v1_10), (2, .int v2_4), (3, .int v3_11)] [] σ_12) ?_ h
      intro rec_13 hrec_13 v1_10 v3_11 σ_12 h
      refine kk_iload_n 3 rfl e_X9_advance_37 ?_
      refine kk_bipush bp_32 e_X9_advance_38 ?_
      refine kk_icmp_ge e_X9_advance_40 (fun c_20 => ?_) (fun c_20 => ?_)
      · replace h := h.1 c_20
        exact kk_sub [0, 1, 2] rfl (hJ_9 v1_10 σ_12 h)
      · replace h := h.2 c_20
        refine kk_aload_n 0 rfl e_X9_advance_43 ?_
        refine kk_getr e_X9_advance_44 fl_X9_18 rfl rfl ?_
        refine kk_iload_n 2 rfl e_X9_advance_47 ?_
        refine kk_iald e_X9_advance_48 rfl h.1 ?_
        replace h := h.2
        refine kk_if_eq e_X9_advance_49 (fun c_19 => ?_) (fun c_19 => ?_)
        · replace h := h.1 c_19
          exact kk_sub [0, 1, 2] rfl (hJ_9 v1_10 σ_12 h)
        · replace h := h.2 c_19
          refine kk_aload_n 0 rfl e_X9_advance_52 ?_
          refine kk_getr e_X9_advance_53 fl_X9_18 rfl rfl ?_
          refine kk_iload_n 2 rfl e_X9_advance_56 ?_
          refine kk_iald e_X9_advance_57 rfl h.1 ?_
          replace h := h.2
          refine kk_iload_n 3 rfl e_X9_advance_58 ?_
          refine kk_ishr e_X9_advance_59 ?_
          refine kk_iconst ic_1 e_X9_advance_60 ?_
          refine kk_iand e_X9_advance_61 ?_
          refine kk_jW2 (P := fun (v1_14 : Int32) (σ_15 : kk_St) => KK Z sh_C RX9 cX9_advance 4 (some .boolean) (kk_R 5) (kk_Qi Z sh_C Q) 76 [(0, .ref (Z.2.1 10)), (1, .int v1_14), (2, .int v2_4), (3, .int v3_11)] [] σ_15) h ?_ ?_
          · intro v1_14 σ_15 h
            refine kk_iinc (lv' := [(3, .int (v3_11 + (1 : Int32))), (0, .ref (Z.2.1 10)), (1, .int v1_14), (2, .int v2_4)]) e_X9_advance_76 (j := 3) rfl (ii_1 v3_11) (by decide) rfl ?_
            refine kk_goto e_X9_advance_79 ?_
            exact kk_sub [1, 2, 3, 0] rfl (hrec_13 v1_14 (v3_11 + (1 : Int32)) σ_15 h)
          · intro J_16 hJ_16 h
            refine kk_if_eq e_X9_advance_62 (fun c_18 => ?_) (fun c_18 => ?_)
            · replace h := h.1 c_18
              exact kk_sub [0, 1, 2, 3] rfl (hJ_16 v1_10 σ_12 h)
            · replace h := h.2 c_18
              refine kk_aload_n 0 rfl e_X9_advance_65 ?_
              refine kk_iload_n 2 rfl e_X9_advance_66 ?_
              refine kk_iconst ic_5 e_X9_advance_67 ?_
              refine kk_ishl e_X9_advance_68 ?_
              refine kk_iload_n 3 rfl e_X9_advance_69 ?_
              refine kk_ior e_X9_advance_70 ?_
              refine kk_callVv (As := [.int ((v2_4 <<< ((5 : Int32) &&& 31)) ||| v3_11)]) (rest := []) e_X9_advance_71 ml_X9_89 ⟨_, _, _, _, rfl, rfl⟩ rfl (kk_fitR (by decide) (by decide)) (Nat.le_of_ble_eq_true rfl) rfl (s_X9_turnEach Z ((v2_4 <<< ((5 : Int32) &&& 31)) ||| v3_11) σ_12 _ h) (fun σ_17 h => ?_)
              refine kk_iconst ic_1 e_X9_advance_74 ?_
              refine kk_istore_n (lv' := [(1, .int (1 : Int32)), (0, .ref (Z.2.1 10)), (2, .int v2_4), (3, .int v3_11)]) e_X9_advance_75 rfl (by decide) rfl ?_
              exact kk_sub [1, 0, 2, 3] rfl (hJ_16 (1 : Int32) σ_17 h)
theorem e_X9_spreadKind_0 : kk_d cX9_spreadKind 0 (.iconst 0) 1 1 := ⟨by decide +kernel, rfl⟩
theorem e_X9_spreadKind_1 : kk_d cX9_spreadKind 1 (.istore_n 1) 1 2 := ⟨by decide +kernel, rfl⟩
theorem e_X9_spreadKind_2 : kk_d cX9_spreadKind 2 (.iload_n 1) 1 3 := ⟨by decide +kernel, rfl⟩
theorem e_X9_spreadKind_3 : kk_d cX9_spreadKind 3 (.sipush 4096) 3 6 := ⟨by decide +kernel, rfl⟩
theorem e_X9_spreadKind_6 : kk_dj cX9_spreadKind 6 (.if_icmp .gt 17) 3 (17) 9 23 := ⟨by decide +kernel, rfl, by decide⟩
theorem e_X9_spreadKind_23 : kk_d cX9_spreadKind 23 .return_ 1 24 := ⟨by decide +kernel, rfl⟩
theorem e_X9_spreadKind_9 : kk_d cX9_spreadKind 9 (.aload_n 0) 1 10 := ⟨by decide +kernel, rfl⟩
theorem e_X9_spreadKind_10 : kk_d cX9_spreadKind 10 (.invokevirtual 54) 3 13 := ⟨by decide +kernel, rfl⟩
theorem e_X9_spreadKind_13 : kk_dj cX9_spreadKind 13 (.ifCond .ne 4) 3 (4) 16 17 := ⟨by decide +kernel, rfl, by decide⟩
theorem e_X9_spreadKind_17 : kk_d cX9_spreadKind 17 (.iinc 1 1) 3 20 := ⟨by decide +kernel, rfl⟩
theorem e_X9_spreadKind_20 : kk_dj cX9_spreadKind 20 (.goto (-18)) 3 (-18) 23 2 := ⟨by decide +kernel, rfl, by decide⟩
theorem e_X9_spreadKind_16 : kk_d cX9_spreadKind 16 .return_ 1 17 := ⟨by decide +kernel, rfl⟩
set_option maxRecDepth 4000 in
theorem s_X9_spreadKind (Z : kk_Z) (σ : kk_St) (Q : kk_St → Prop) (h : f_X9_spreadKind σ Q) : kk_M Z sh_C yX9_spreadKind cX9_spreadKind 2 none (kk_R 6) [.ref (Z.2.1 10)] σ (kk_Qv Z sh_C Q) := by
  unfold f_X9_spreadKind at h
  refine kk_met (own := RX9) (by decide) rfl (Nat.le_of_ble_eq_true rfl) rfl ?_
  refine kk_iconst ic_0 e_X9_spreadKind_0 ?_
  refine kk_istore_n (lv' := [(1, .int (0 : Int32)), (0, .ref (Z.2.1 10))]) e_X9_spreadKind_1 rfl (by decide) rfl ?_
  refine kk_sub [1, 0] rfl ?_
  refine kk_lpW2 (P := fun (v1_1 : Int32) (σ_2 : kk_St) => KK Z sh_C RX9 cX9_spreadKind 2 none (kk_R 6) (kk_Qv Z sh_C Q) 2 [(0, .ref (Z.2.1 10)), (1, .int v1_1)] [] σ_2) ?_ h
  intro rec_3 hrec_3 v1_1 σ_2 h
  refine kk_iload_n 1 rfl e_X9_spreadKind_2 ?_
  refine kk_sipush sp_4096 e_X9_spreadKind_3 ?_
  refine kk_icmp_gt e_X9_spreadKind_6 (fun c_7 => ?_) (fun c_7 => ?_)
  · replace h := h.1 c_7
    exact kk_vret e_X9_spreadKind_23 h
  · replace h := h.2 c_7
    refine kk_aload_n 0 rfl e_X9_spreadKind_9 ?_
    refine kk_callVi (As := []) (rest := []) e_X9_spreadKind_10 ml_X9_54 ⟨_, _, _, _, rfl, rfl⟩ rfl (kk_fitR (by decide) (by decide)) (Nat.le_of_ble_eq_true rfl) rfl (s_X9_advance Z σ_2 _ h) (fun r_4 σ_5 h => ?_)
    refine kk_if_ne e_X9_spreadKind_13 (fun c_6 => ?_) (fun c_6 => ?_)
    · replace h := h.1 c_6
      refine kk_iinc (lv' := [(1, .int (v1_1 + (1 : Int32))), (0, .ref (Z.2.1 10))]) e_X9_spreadKind_17 (j := 1) rfl (ii_1 v1_1) (by decide) rfl ?_
      refine kk_goto e_X9_spreadKind_20 ?_
      exact kk_sub [1, 0] rfl (hrec_3 (v1_1 + (1 : Int32)) σ_5 h)
    · replace h := h.2 c_6
      exact kk_vret e_X9_spreadKind_16 h
theorem e_X9_place_0 : kk_d cX9_place 0 (.iload_n 1) 1 1 := ⟨by decide +kernel, rfl⟩
theorem e_X9_place_1 : kk_d cX9_place 1 (.aload_n 0) 1 2 := ⟨by decide +kernel, rfl⟩
theorem e_X9_place_2 : kk_d cX9_place 2 (.getfield 31) 3 5 := ⟨by decide +kernel, rfl⟩
theorem e_X9_place_5 : kk_d cX9_place 5 (.getfield 64) 3 8 := ⟨by decide +kernel, rfl⟩
theorem e_X9_place_8 : kk_dj cX9_place 8 (.if_icmp .ge 9) 3 (9) 11 17 := ⟨by decide +kernel, rfl, by decide⟩
theorem e_X9_place_17 : kk_d cX9_place 17 (.aload_n 0) 1 18 := ⟨by decide +kernel, rfl⟩
theorem e_X9_place_18 : kk_d cX9_place 18 (.iload_n 2) 1 19 := ⟨by decide +kernel, rfl⟩
theorem e_X9_place_19 : kk_d cX9_place 19 (.invokevirtual 50) 3 22 := ⟨by decide +kernel, rfl⟩
theorem e_X9_place_22 : kk_dj cX9_place 22 (.ifCond .ne 22) 3 (22) 25 44 := ⟨by decide +kernel, rfl, by decide⟩
theorem e_X9_place_44 : kk_d cX9_place 44 .return_ 1 45 := ⟨by decide +kernel, rfl⟩
theorem e_X9_place_25 : kk_d cX9_place 25 (.aload_n 0) 1 26 := ⟨by decide +kernel, rfl⟩
theorem e_X9_place_26 : kk_d cX9_place 26 .dup 1 27 := ⟨by decide +kernel, rfl⟩
theorem e_X9_place_27 : kk_d cX9_place 27 (.getfield 28) 3 30 := ⟨by decide +kernel, rfl⟩
theorem e_X9_place_30 : kk_d cX9_place 30 (.iconst 1) 1 31 := ⟨by decide +kernel, rfl⟩
theorem e_X9_place_31 : kk_d cX9_place 31 .iadd 1 32 := ⟨by decide +kernel, rfl⟩
theorem e_X9_place_32 : kk_d cX9_place 32 (.putfield 28) 3 35 := ⟨by decide +kernel, rfl⟩
theorem e_X9_place_35 : kk_d cX9_place 35 (.aload_n 0) 1 36 := ⟨by decide +kernel, rfl⟩
theorem e_X9_place_36 : kk_d cX9_place 36 (.iload_n 2) 1 37 := ⟨by decide +kernel, rfl⟩
theorem e_X9_place_37 : kk_d cX9_place 37 (.invokevirtual 47) 3 40 := ⟨by decide +kernel, rfl⟩
theorem e_X9_place_40 : kk_d cX9_place 40 (.aload_n 0) 1 41 := ⟨by decide +kernel, rfl⟩
theorem e_X9_place_41 : kk_d cX9_place 41 (.invokevirtual 76) 3 44 := ⟨by decide +kernel, rfl⟩
theorem e_X9_place_11 : kk_d cX9_place 11 (.iload_n 1) 1 12 := ⟨by decide +kernel, rfl⟩
theorem e_X9_place_12 : kk_d cX9_place 12 (.bipush 6) 2 14 := ⟨by decide +kernel, rfl⟩
theorem e_X9_place_14 : kk_dj cX9_place 14 (.if_icmp .lt 31) 3 (31) 17 45 := ⟨by decide +kernel, rfl, by decide⟩
theorem e_X9_place_45 : kk_d cX9_place 45 (.iconst 1) 1 46 := ⟨by decide +kernel, rfl⟩
theorem e_X9_place_46 : kk_d cX9_place 46 (.iconst 2) 1 47 := ⟨by decide +kernel, rfl⟩
theorem e_X9_place_47 : kk_d cX9_place 47 (.iload_n 1) 1 48 := ⟨by decide +kernel, rfl⟩
theorem e_X9_place_48 : kk_d cX9_place 48 .imul 1 49 := ⟨by decide +kernel, rfl⟩
theorem e_X9_place_49 : kk_d cX9_place 49 .ishl 1 50 := ⟨by decide +kernel, rfl⟩
theorem e_X9_place_50 : kk_d cX9_place 50 (.iconst 1) 1 51 := ⟨by decide +kernel, rfl⟩
theorem e_X9_place_51 : kk_d cX9_place 51 .isub 1 52 := ⟨by decide +kernel, rfl⟩
theorem e_X9_place_52 : kk_d cX9_place 52 (.istore_n 3) 1 53 := ⟨by decide +kernel, rfl⟩
theorem e_X9_place_53 : kk_d cX9_place 53 (.iconst 0) 1 54 := ⟨by decide +kernel, rfl⟩
theorem e_X9_place_54 : kk_d cX9_place 54 (.istore 4) 2 56 := ⟨by decide +kernel, rfl⟩
theorem e_X9_place_56 : kk_d cX9_place 56 (.iload 4) 2 58 := ⟨by decide +kernel, rfl⟩
theorem e_X9_place_58 : kk_d cX9_place 58 (.aload_n 0) 1 59 := ⟨by decide +kernel, rfl⟩
theorem e_X9_place_59 : kk_d cX9_place 59 (.getfield 24) 3 62 := ⟨by decide +kernel, rfl⟩
theorem e_X9_place_62 : kk_dj cX9_place 62 (.if_icmp .ge 43) 3 (43) 65 105 := ⟨by decide +kernel, rfl, by decide⟩
theorem e_X9_place_105 : kk_d cX9_place 105 .return_ 1 106 := ⟨by decide +kernel, rfl⟩
theorem e_X9_place_65 : kk_d cX9_place 65 (.aload_n 0) 1 66 := ⟨by decide +kernel, rfl⟩
theorem e_X9_place_66 : kk_d cX9_place 66 (.iload_n 2) 1 67 := ⟨by decide +kernel, rfl⟩
theorem e_X9_place_67 : kk_d cX9_place 67 (.iload 4) 2 69 := ⟨by decide +kernel, rfl⟩
theorem e_X9_place_69 : kk_d cX9_place 69 (.invokevirtual 79) 3 72 := ⟨by decide +kernel, rfl⟩
theorem e_X9_place_72 : kk_d cX9_place 72 (.iload_n 3) 1 73 := ⟨by decide +kernel, rfl⟩
theorem e_X9_place_73 : kk_d cX9_place 73 .iand 1 74 := ⟨by decide +kernel, rfl⟩
theorem e_X9_place_74 : kk_d cX9_place 74 (.aload_n 0) 1 75 := ⟨by decide +kernel, rfl⟩
theorem e_X9_place_75 : kk_d cX9_place 75 (.getfield 11) 3 78 := ⟨by decide +kernel, rfl⟩
theorem e_X9_place_78 : kk_d cX9_place 78 (.iload_n 1) 1 79 := ⟨by decide +kernel, rfl⟩
theorem e_X9_place_79 : kk_d cX9_place 79 .iaload 1 80 := ⟨by decide +kernel, rfl⟩
theorem e_X9_place_80 : kk_d cX9_place 80 .iand 1 81 := ⟨by decide +kernel, rfl⟩
theorem e_X9_place_81 : kk_dj cX9_place 81 (.ifCond .ne 18) 3 (18) 84 99 := ⟨by decide +kernel, rfl, by decide⟩
theorem e_X9_place_99 : kk_d cX9_place 99 (.iinc 4 1) 3 102 := ⟨by decide +kernel, rfl⟩
theorem e_X9_place_102 : kk_dj cX9_place 102 (.goto (-46)) 3 (-46) 105 56 := ⟨by decide +kernel, rfl, by decide⟩
theorem e_X9_place_84 : kk_d cX9_place 84 (.aload_n 0) 1 85 := ⟨by decide +kernel, rfl⟩
theorem e_X9_place_85 : kk_d cX9_place 85 (.iload_n 1) 1 86 := ⟨by decide +kernel, rfl⟩
theorem e_X9_place_86 : kk_d cX9_place 86 (.iconst 1) 1 87 := ⟨by decide +kernel, rfl⟩
theorem e_X9_place_87 : kk_d cX9_place 87 .iadd 1 88 := ⟨by decide +kernel, rfl⟩
theorem e_X9_place_88 : kk_d cX9_place 88 (.iload_n 2) 1 89 := ⟨by decide +kernel, rfl⟩
theorem e_X9_place_89 : kk_d cX9_place 89 (.iload 4) 2 91 := ⟨by decide +kernel, rfl⟩
theorem e_X9_place_91 : kk_d cX9_place 91 (.iconst 2) 1 92 := ⟨by decide +kernel, rfl⟩
theorem e_X9_place_92 : kk_d cX9_place 92 (.iload_n 1) 1 93 := ⟨by decide +kernel, rfl⟩
theorem e_X9_place_93 : kk_d cX9_place 93 .imul 1 94 := ⟨by decide +kernel, rfl⟩
theorem e_X9_place_94 : kk_d cX9_place 94 .ishl 1 95 := ⟨by decide +kernel, rfl⟩
theorem e_X9_place_95 : kk_d cX9_place 95 .ior 1 96 := ⟨by decide +kernel, rfl⟩
theorem e_X9_place_96 : kk_d cX9_place 96 (.invokevirtual 39) 3 99 := ⟨by decide +kernel, rfl⟩
set_option maxRecDepth 4000 in
theorem s_X9_place (Z : kk_Z) : ∀ (n : Nat) (v1 : Int32) (v2 : Int32) (σ : kk_St) (Q : kk_St → Prop), f_X9_place n v1 v2 σ Q → kk_M Z sh_C yX9_place cX9_place 5 none (kk_R (1 * n + 7)) [.ref (Z.2.1 10), .int v1, .int v2] σ (kk_Qv Z sh_C Q) := by
  intro n
  induction n with
  | zero => intro _ _ _ _ h; exact h.elim
  | succ n ih =>
    intro v1 v2 σ Q h
    unfold f_X9_place at h
    refine kk_met (own := RX9) (by decide) rfl (Nat.le_of_ble_eq_true rfl) rfl ?_
    refine kk_iload_n 1 rfl e_X9_place_0 ?_
    refine kk_aload_n 0 rfl e_X9_place_1 ?_
    refine kk_getr e_X9_place_2 fl_X9_31 rfl rfl ?_
    refine kk_geti e_X9_place_5 fl_X9_64 rfl rfl ?_
    refine kk_jW0 (P := KK Z sh_C RX9 cX9_place 5 none (kk_R (1 * (n + 1) + 7)) (kk_Qv Z sh_C Q) 17 [(0, .ref (Z.2.1 10)), (2, .int v2)] [] σ) h ?_ ?_
    · intro h
      refine kk_aload_n 0 rfl e_X9_place_17 ?_
      refine kk_iload_n 1 rfl e_X9_place_18 ?_
      refine kk_callVip (As := [.int v2]) (rest := []) e_X9_place_19 ml_X9_50 ⟨_, _, _, _, rfl, rfl⟩ rfl (kk_fitR (by omega) (by decide)) (Nat.le_of_ble_eq_true rfl) rfl (s_X9_isSeen Z v2 σ _ h) (fun r_2 h => ?_)
      refine kk_jW1 (P := fun (σ_3 : kk_St) => KK Z sh_C RX9 cX9_place 5 none (kk_R (1 * (n + 1) + 7)) (kk_Qv Z sh_C Q) 44 [] [] σ_3) h ?_ ?_
      · intro σ_3 h
        exact kk_vret e_X9_place_44 h
      · intro J_4 hJ_4 h
        refine kk_if_ne e_X9_place_22 (fun c_8 => ?_) (fun c_8 => ?_)
        · replace h := h.1 c_8
          exact kk_sub [] rfl (hJ_4 σ h)
        · replace h := h.2 c_8
          refine kk_aload_n 0 rfl e_X9_place_25 ?_
          refine kk_dup rfl e_X9_place_26 ?_
          refine kk_geti e_X9_place_27 fl_X9_28 rfl rfl ?_
          refine kk_iconst ic_1 e_X9_place_30 ?_
          refine kk_iadd e_X9_place_31 ?_
          refine kk_puti e_X9_place_32 fl_X9_28 fn_X9_6 rfl rfl ?_
          refine kk_tops (fun σ_5 eσ_5 => ?_)
          replace h := h σ_5 eσ_5
          refine kk_aload_n 0 rfl e_X9_place_35 ?_
          refine kk_iload_n 1 rfl e_X9_place_36 ?_
          refine kk_callVv (As := [.int v2]) (rest := []) e_X9_place_37 ml_X9_47 ⟨_, _, _, _, rfl, rfl⟩ rfl (kk_fitR (by omega) (by decide)) (Nat.le_of_ble_eq_true rfl) rfl (s_X9_mark Z v2 σ_5 _ h) (fun σ_6 h => ?_)
          refine kk_aload_n 0 rfl e_X9_place_40 ?_
          refine kk_callVv (As := []) (rest := []) e_X9_place_41 ml_X9_76 ⟨_, _, _, _, rfl, rfl⟩ rfl (kk_fitR (by omega) (by decide)) (Nat.le_of_ble_eq_true rfl) rfl (s_X9_spreadKind Z σ_6 _ h) (fun σ_7 h => ?_)
          exact kk_sub [] rfl (hJ_4 σ_7 h)
    · intro J_1 hJ_1 h
      refine kk_icmp_ge e_X9_place_8 (fun c_20 => ?_) (fun c_20 => ?_)
      · replace h := h.1 c_20
        exact kk_sub [0, 2] rfl (hJ_1 h)
      · replace h := h.2 c_20
        refine kk_iload_n 1 rfl e_X9_place_11 ?_
        refine kk_bipush bp_6 e_X9_place_12 ?_
        refine kk_icmp_lt e_X9_place_14 (fun c_19 => ?_) (fun c_19 => ?_)
        · replace h := h.1 c_19
          refine kk_iconst ic_1 e_X9_place_45 ?_
          refine kk_iconst ic_2 e_X9_place_46 ?_
          refine kk_iload_n 1 rfl e_X9_place_47 ?_
          refine kk_imul e_X9_place_48 ?_
          refine kk_ishl e_X9_place_49 ?_
          refine kk_iconst ic_1 e_X9_place_50 ?_
          refine kk_isub e_X9_place_51 ?_
          refine kk_topi (fun v3_9 ev3_9 => ?_)
          replace h := h v3_9 ev3_9
          refine kk_istore_n (lv' := [(3, .int v3_9), (0, .ref (Z.2.1 10)), (1, .int v1), (2, .int v2)]) e_X9_place_52 rfl (by decide) rfl ?_
          refine kk_iconst ic_0 e_X9_place_53 ?_
          refine kk_istore (lv' := [(4, .int (0 : Int32)), (3, .int v3_9), (0, .ref (Z.2.1 10)), (1, .int v1), (2, .int v2)]) e_X9_place_54 (by decide) rfl ?_
          refine kk_sub [2, 3, 4, 1, 0] rfl ?_
          refine kk_lpW2 (P := fun (v4_10 : Int32) (σ_11 : kk_St) => KK Z sh_C RX9 cX9_place 5 none (kk_R (1 * (n + 1) + 7)) (kk_Qv Z sh_C Q) 56 [(0, .ref (Z.2.1 10)), (1, .int v1), (2, .int v2), (3, .int v3_9), (4, .int v4_10)] [] σ_11) ?_ h
          intro rec_12 hrec_12 v4_10 σ_11 h
          refine kk_iload 4 rfl e_X9_place_56 ?_
          refine kk_aload_n 0 rfl e_X9_place_58 ?_
          refine kk_geti e_X9_place_59 fl_X9_24 rfl rfl ?_
          refine kk_icmp_ge e_X9_place_62 (fun c_18 => ?_) (fun c_18 => ?_)
          · replace h := h.1 c_18
            exact kk_vret e_X9_place_105 h
          · replace h := h.2 c_18
            refine kk_aload_n 0 rfl e_X9_place_65 ?_
            refine kk_iload_n 2 rfl e_X9_place_66 ?_
            refine kk_iload 4 rfl e_X9_place_67 ?_
            refine kk_callVip (As := [.int v2, .int v4_10]) (rest := []) e_X9_place_69 ml_X9_79 ⟨_, _, _, _, rfl, rfl⟩ rfl (kk_fitR (by omega) (by decide)) (Nat.le_of_ble_eq_true rfl) rfl (s_X9_linesWith Z v2 v4_10 σ_11 _ h) (fun r_13 h => ?_)
            refine kk_iload_n 3 rfl e_X9_place_72 ?_
            refine kk_iand e_X9_place_73 ?_
            refine kk_aload_n 0 rfl e_X9_place_74 ?_
            refine kk_getr e_X9_place_75 fl_X9_11 rfl rfl ?_
            refine kk_iload_n 1 rfl e_X9_place_78 ?_
            refine kk_iald e_X9_place_79 rfl h.1 ?_
            replace h := h.2
            refine kk_iand e_X9_place_80 ?_
            refine kk_jW1 (P := fun (σ_14 : kk_St) => KK Z sh_C RX9 cX9_place 5 none (kk_R (1 * (n + 1) + 7)) (kk_Qv Z sh_C Q) 99 [(0, .ref (Z.2.1 10)), (1, .int v1), (2, .int v2), (3, .int v3_9), (4, .int v4_10)] [] σ_14) h ?_ ?_
            · intro σ_14 h
              refine kk_iinc (lv' := [(4, .int (v4_10 + (1 : Int32))), (0, .ref (Z.2.1 10)), (1, .int v1), (2, .int v2), (3, .int v3_9)]) e_X9_place_99 (j := 4) rfl (ii_1 v4_10) (by decide) rfl ?_
              refine kk_goto e_X9_place_102 ?_
              exact kk_sub [1, 2, 3, 4, 0] rfl (hrec_12 (v4_10 + (1 : Int32)) σ_14 h)
            · intro J_15 hJ_15 h
              refine kk_if_ne e_X9_place_81 (fun c_17 => ?_) (fun c_17 => ?_)
              · replace h := h.1 c_17
                exact kk_sub [0, 1, 2, 3, 4] rfl (hJ_15 σ_11 h)
              · replace h := h.2 c_17
                refine kk_aload_n 0 rfl e_X9_place_84 ?_
                refine kk_iload_n 1 rfl e_X9_place_85 ?_
                refine kk_iconst ic_1 e_X9_place_86 ?_
                refine kk_iadd e_X9_place_87 ?_
                refine kk_iload_n 2 rfl e_X9_place_88 ?_
                refine kk_iload 4 rfl e_X9_place_89 ?_
                refine kk_iconst ic_2 e_X9_place_91 ?_
                refine kk_iload_n 1 rfl e_X9_place_92 ?_
                refine kk_imul e_X9_place_93 ?_
                refine kk_ishl e_X9_place_94 ?_
                refine kk_ior e_X9_place_95 ?_
                refine kk_callVv (As := [.int (v1 + (1 : Int32)), .int (v2 ||| (v4_10 <<< (((2 : Int32) * v1) &&& 31)))]) (rest := []) e_X9_place_96 ml_X9_39 ⟨_, _, _, _, rfl, rfl⟩ rfl (kk_fitR (by omega) (by decide)) (Nat.le_of_ble_eq_true rfl) rfl (ih (v1 + (1 : Int32)) (v2 ||| (v4_10 <<< (((2 : Int32) * v1) &&& 31))) σ_11 _ h) (fun σ_16 h => ?_)
                exact kk_sub [0, 1, 2, 3, 4] rfl (hJ_15 σ_16 h)
        · replace h := h.2 c_19
          exact kk_sub [0, 2] rfl (hJ_1 h)
theorem e_X9_spread_0 : kk_d cX9_spread 0 (.iconst 0) 1 1 := ⟨by decide +kernel, rfl⟩
theorem e_X9_spread_1 : kk_d cX9_spread 1 (.istore_n 1) 1 2 := ⟨by decide +kernel, rfl⟩
theorem e_X9_spread_2 : kk_d cX9_spread 2 (.iconst 0) 1 3 := ⟨by decide +kernel, rfl⟩
theorem e_X9_spread_3 : kk_d cX9_spread 3 (.istore_n 2) 1 4 := ⟨by decide +kernel, rfl⟩
theorem e_X9_spread_4 : kk_d cX9_spread 4 (.iload_n 2) 1 5 := ⟨by decide +kernel, rfl⟩
theorem e_X9_spread_5 : kk_d cX9_spread 5 (.bipush 6) 2 7 := ⟨by decide +kernel, rfl⟩
theorem e_X9_spread_7 : kk_dj cX9_spread 7 (.if_icmp .ge 21) 3 (21) 10 28 := ⟨by decide +kernel, rfl, by decide⟩
theorem e_X9_spread_28 : kk_d cX9_spread 28 (.iload_n 1) 1 29 := ⟨by decide +kernel, rfl⟩
theorem e_X9_spread_29 : kk_d cX9_spread 29 .ireturn 1 30 := ⟨by decide +kernel, rfl⟩
theorem e_X9_spread_10 : kk_d cX9_spread 10 (.iload_n 1) 1 11 := ⟨by decide +kernel, rfl⟩
theorem e_X9_spread_11 : kk_d cX9_spread 11 (.iload_n 0) 1 12 := ⟨by decide +kernel, rfl⟩
theorem e_X9_spread_12 : kk_d cX9_spread 12 (.iload_n 2) 1 13 := ⟨by decide +kernel, rfl⟩
theorem e_X9_spread_13 : kk_d cX9_spread 13 .ishr 1 14 := ⟨by decide +kernel, rfl⟩
theorem e_X9_spread_14 : kk_d cX9_spread 14 (.iconst 1) 1 15 := ⟨by decide +kernel, rfl⟩
theorem e_X9_spread_15 : kk_d cX9_spread 15 .iand 1 16 := ⟨by decide +kernel, rfl⟩
theorem e_X9_spread_16 : kk_d cX9_spread 16 (.iconst 2) 1 17 := ⟨by decide +kernel, rfl⟩
theorem e_X9_spread_17 : kk_d cX9_spread 17 (.iload_n 2) 1 18 := ⟨by decide +kernel, rfl⟩
theorem e_X9_spread_18 : kk_d cX9_spread 18 .imul 1 19 := ⟨by decide +kernel, rfl⟩
theorem e_X9_spread_19 : kk_d cX9_spread 19 .ishl 1 20 := ⟨by decide +kernel, rfl⟩
theorem e_X9_spread_20 : kk_d cX9_spread 20 .ior 1 21 := ⟨by decide +kernel, rfl⟩
theorem e_X9_spread_21 : kk_d cX9_spread 21 (.istore_n 1) 1 22 := ⟨by decide +kernel, rfl⟩
theorem e_X9_spread_22 : kk_d cX9_spread 22 (.iinc 2 1) 3 25 := ⟨by decide +kernel, rfl⟩
theorem e_X9_spread_25 : kk_dj cX9_spread 25 (.goto (-21)) 3 (-21) 28 4 := ⟨by decide +kernel, rfl, by decide⟩
set_option maxRecDepth 4000 in
theorem s_X9_spread (Z : kk_Z) (v0 : Int32) (σ : kk_St) (Q : Int32 → Prop) (h : f_X9_spread v0 Q) : kk_M Z sh_C yX9_spread cX9_spread 3 (some .int) (kk_R 2) [.int v0] σ (kk_Qi Z sh_C (fun r σ' => σ' = σ ∧ Q r)) := by
  unfold f_X9_spread at h
  refine kk_met (own := RX9) (by decide) rfl (Nat.le_of_ble_eq_true rfl) rfl ?_
  refine kk_iconst ic_0 e_X9_spread_0 ?_
  refine kk_istore_n (lv' := [(1, .int (0 : Int32)), (0, .int v0)]) e_X9_spread_1 rfl (by decide) rfl ?_
  refine kk_iconst ic_0 e_X9_spread_2 ?_
  refine kk_istore_n (lv' := [(2, .int (0 : Int32)), (1, .int (0 : Int32)), (0, .int v0)]) e_X9_spread_3 rfl (by decide) rfl ?_
  refine kk_sub [2, 1, 0] rfl ?_
  refine kk_lpW2 (P := fun (v1_1 : Int32) (v2_2 : Int32) => KK Z sh_C RX9 cX9_spread 3 (some .int) (kk_R 2) (kk_Qi Z sh_C (fun r σ' => σ' = σ ∧ Q r)) 4 [(0, .int v0), (1, .int v1_1), (2, .int v2_2)] [] σ) ?_ h
  intro rec_3 hrec_3 v1_1 v2_2 h
  refine kk_iload_n 2 rfl e_X9_spread_4 ?_
  refine kk_bipush bp_6 e_X9_spread_5 ?_
  refine kk_icmp_ge e_X9_spread_7 (fun c_5 => ?_) (fun c_5 => ?_)
  · replace h := h.1 c_5
    refine kk_iload_n 1 rfl e_X9_spread_28 ?_
    exact kk_iret e_X9_spread_29 ⟨rfl, h⟩
  · replace h := h.2 c_5
    refine kk_iload_n 1 rfl e_X9_spread_10 ?_
    refine kk_iload_n 0 rfl e_X9_spread_11 ?_
    refine kk_iload_n 2 rfl e_X9_spread_12 ?_
    refine kk_ishr e_X9_spread_13 ?_
    refine kk_iconst ic_1 e_X9_spread_14 ?_
    refine kk_iand e_X9_spread_15 ?_
    refine kk_iconst ic_2 e_X9_spread_16 ?_
    refine kk_iload_n 2 rfl e_X9_spread_17 ?_
    refine kk_imul e_X9_spread_18 ?_
    refine kk_ishl e_X9_spread_19 ?_
    refine kk_ior e_X9_spread_20 ?_
    refine kk_topi (fun v1_4 ev1_4 => ?_)
    replace h := h v1_4 ev1_4
    refine kk_istore_n (lv' := [(1, .int v1_4), (0, .int v0), (2, .int v2_2)]) e_X9_spread_21 rfl (by decide) rfl ?_
    refine kk_iinc (lv' := [(2, .int (v2_2 + (1 : Int32))), (1, .int v1_4), (0, .int v0)]) e_X9_spread_22 (j := 2) rfl (ii_1 v2_2) (by decide) rfl ?_
    refine kk_goto e_X9_spread_25 ?_
    exact kk_sub [2, 1, 0] rfl (hrec_3 v1_4 (v2_2 + (1 : Int32)) h)
theorem e_X9_prepare_0 : kk_d cX9_prepare 0 (.aload_n 0) 1 1 := ⟨by decide +kernel, rfl⟩
theorem e_X9_prepare_1 : kk_d cX9_prepare 1 (.iload_n 1) 1 2 := ⟨by decide +kernel, rfl⟩
theorem e_X9_prepare_2 : kk_d cX9_prepare 2 (.putfield 24) 3 5 := ⟨by decide +kernel, rfl⟩
theorem e_X9_prepare_5 : kk_d cX9_prepare 5 (.aload_n 0) 1 6 := ⟨by decide +kernel, rfl⟩
theorem e_X9_prepare_6 : kk_d cX9_prepare 6 (.getfield 15) 3 9 := ⟨by decide +kernel, rfl⟩
theorem e_X9_prepare_9 : kk_d cX9_prepare 9 (.iconst 0) 1 10 := ⟨by decide +kernel, rfl⟩
theorem e_X9_prepare_10 : kk_d cX9_prepare 10 (.invokestatic 58) 3 13 := ⟨by decide +kernel, rfl⟩
theorem e_X9_prepare_13 : kk_d cX9_prepare 13 (.aload_n 0) 1 14 := ⟨by decide +kernel, rfl⟩
theorem e_X9_prepare_14 : kk_d cX9_prepare 14 (.getfield 21) 3 17 := ⟨by decide +kernel, rfl⟩
theorem e_X9_prepare_17 : kk_d cX9_prepare 17 (.iconst 0) 1 18 := ⟨by decide +kernel, rfl⟩
theorem e_X9_prepare_18 : kk_d cX9_prepare 18 (.invokestatic 58) 3 21 := ⟨by decide +kernel, rfl⟩
theorem e_X9_prepare_21 : kk_d cX9_prepare 21 (.iconst 0) 1 22 := ⟨by decide +kernel, rfl⟩
theorem e_X9_prepare_22 : kk_d cX9_prepare 22 (.istore_n 2) 1 23 := ⟨by decide +kernel, rfl⟩
theorem e_X9_prepare_64 : kk_d cX9_prepare 64 .return_ 1 65 := ⟨by decide +kernel, rfl⟩
theorem e_X9_prepare_23 : kk_d cX9_prepare 23 (.iload_n 2) 1 24 := ⟨by decide +kernel, rfl⟩
theorem e_X9_prepare_24 : kk_d cX9_prepare 24 (.aload_n 0) 1 25 := ⟨by decide +kernel, rfl⟩
theorem e_X9_prepare_25 : kk_d cX9_prepare 25 (.getfield 31) 3 28 := ⟨by decide +kernel, rfl⟩
theorem e_X9_prepare_28 : kk_d cX9_prepare 28 (.getfield 64) 3 31 := ⟨by decide +kernel, rfl⟩
theorem e_X9_prepare_31 : kk_dj cX9_prepare 31 (.if_icmp .ge 33) 3 (33) 34 64 := ⟨by decide +kernel, rfl, by decide⟩
theorem e_X9_prepare_34 : kk_d cX9_prepare 34 (.iload_n 2) 1 35 := ⟨by decide +kernel, rfl⟩
theorem e_X9_prepare_35 : kk_d cX9_prepare 35 (.bipush 6) 2 37 := ⟨by decide +kernel, rfl⟩
theorem e_X9_prepare_37 : kk_dj cX9_prepare 37 (.if_icmp .ge 27) 3 (27) 40 64 := ⟨by decide +kernel, rfl, by decide⟩
theorem e_X9_prepare_40 : kk_d cX9_prepare 40 (.aload_n 0) 1 41 := ⟨by decide +kernel, rfl⟩
theorem e_X9_prepare_41 : kk_d cX9_prepare 41 (.getfield 11) 3 44 := ⟨by decide +kernel, rfl⟩
theorem e_X9_prepare_44 : kk_d cX9_prepare 44 (.iload_n 2) 1 45 := ⟨by decide +kernel, rfl⟩
theorem e_X9_prepare_45 : kk_d cX9_prepare 45 (.aload_n 0) 1 46 := ⟨by decide +kernel, rfl⟩
theorem e_X9_prepare_46 : kk_d cX9_prepare 46 (.getfield 31) 3 49 := ⟨by decide +kernel, rfl⟩
theorem e_X9_prepare_49 : kk_d cX9_prepare 49 (.getfield 69) 3 52 := ⟨by decide +kernel, rfl⟩
theorem e_X9_prepare_52 : kk_d cX9_prepare 52 (.iload_n 2) 1 53 := ⟨by decide +kernel, rfl⟩
theorem e_X9_prepare_53 : kk_d cX9_prepare 53 .iaload 1 54 := ⟨by decide +kernel, rfl⟩
theorem e_X9_prepare_54 : kk_d cX9_prepare 54 (.invokestatic 72) 3 57 := ⟨by decide +kernel, rfl⟩
theorem e_X9_prepare_57 : kk_d cX9_prepare 57 .iastore 1 58 := ⟨by decide +kernel, rfl⟩
theorem e_X9_prepare_58 : kk_d cX9_prepare 58 (.iinc 2 1) 3 61 := ⟨by decide +kernel, rfl⟩
theorem e_X9_prepare_61 : kk_dj cX9_prepare 61 (.goto (-38)) 3 (-38) 64 23 := ⟨by decide +kernel, rfl, by decide⟩
set_option maxRecDepth 4000 in
theorem s_X9_prepare (Z : kk_Z) (v1 : Int32) (σ : kk_St) (Q : kk_St → Prop) (h : f_X9_prepare v1 σ Q) : kk_M Z sh_C yX9_prepare cX9_prepare 3 none (kk_R 3) [.ref (Z.2.1 10), .int v1] σ (kk_Qv Z sh_C Q) := by
  unfold f_X9_prepare at h
  refine kk_met (own := RX9) (by decide) rfl (Nat.le_of_ble_eq_true rfl) rfl ?_
  refine kk_aload_n 0 rfl e_X9_prepare_0 ?_
  refine kk_iload_n 1 rfl e_X9_prepare_1 ?_
  refine kk_puti e_X9_prepare_2 fl_X9_24 fn_X9_5 rfl rfl ?_
  refine kk_tops (fun σ_1 eσ_1 => ?_)
  replace h := h σ_1 eσ_1
  refine kk_aload_n 0 rfl e_X9_prepare_5 ?_
  refine kk_getr e_X9_prepare_6 fl_X9_15 rfl rfl ?_
  refine kk_iconst ic_0 e_X9_prepare_9 ?_
  refine kk_callSv (As := [.ref (Z.2.1 28), .int (0 : Int32)]) (rest := []) e_X9_prepare_10 ml_X9_58 rfl (kk_fitR (by decide) (by decide)) (Nat.le_of_ble_eq_true rfl) rfl (s_J7_fill_53178 Z 28 128 (0 : Int32) σ_1 _ rfl h) (fun σ_2 h => ?_)
  refine kk_aload_n 0 rfl e_X9_prepare_13 ?_
  refine kk_getr e_X9_prepare_14 fl_X9_21 rfl rfl ?_
  refine kk_iconst ic_0 e_X9_prepare_17 ?_
  refine kk_callSv (As := [.ref (Z.2.1 30), .int (0 : Int32)]) (rest := []) e_X9_prepare_18 ml_X9_58 rfl (kk_fitR (by decide) (by decide)) (Nat.le_of_ble_eq_true rfl) rfl (s_J7_fill_53178 Z 30 128 (0 : Int32) σ_2 _ rfl h) (fun σ_3 h => ?_)
  refine kk_iconst ic_0 e_X9_prepare_21 ?_
  refine kk_istore_n (lv' := [(2, .int (0 : Int32)), (0, .ref (Z.2.1 10)), (1, .int v1)]) e_X9_prepare_22 rfl (by decide) rfl ?_
  refine kk_jW1 (P := fun (σ_4 : kk_St) => KK Z sh_C RX9 cX9_prepare 3 none (kk_R 3) (kk_Qv Z sh_C Q) 64 [] [] σ_4) h ?_ ?_
  · intro σ_4 h
    exact kk_vret e_X9_prepare_64 h
  · intro J_5 hJ_5 h
    refine kk_sub [1, 0] rfl ?_
    refine kk_lpW2 (P := fun (v2_6 : Int32) (σ_7 : kk_St) => KK Z sh_C RX9 cX9_prepare 3 none (kk_R 3) (kk_Qv Z sh_C Q) 23 [(0, .ref (Z.2.1 10)), (2, .int v2_6)] [] σ_7) ?_ h
    intro rec_8 hrec_8 v2_6 σ_7 h
    refine kk_iload_n 1 rfl e_X9_prepare_23 ?_
    refine kk_aload_n 0 rfl e_X9_prepare_24 ?_
    refine kk_getr e_X9_prepare_25 fl_X9_31 rfl rfl ?_
    refine kk_geti e_X9_prepare_28 fl_X9_64 rfl rfl ?_
    refine kk_icmp_ge e_X9_prepare_31 (fun c_12 => ?_) (fun c_12 => ?_)
    · replace h := h.1 c_12
      exact kk_sub [] rfl (hJ_5 σ_7 h)
    · replace h := h.2 c_12
      refine kk_iload_n 1 rfl e_X9_prepare_34 ?_
      refine kk_bipush bp_6 e_X9_prepare_35 ?_
      refine kk_icmp_ge e_X9_prepare_37 (fun c_11 => ?_) (fun c_11 => ?_)
      · replace h := h.1 c_11
        exact kk_sub [] rfl (hJ_5 σ_7 h)
      · replace h := h.2 c_11
        refine kk_aload_n 0 rfl e_X9_prepare_40 ?_
        refine kk_getr e_X9_prepare_41 fl_X9_11 rfl rfl ?_
        refine kk_iload_n 1 rfl e_X9_prepare_44 ?_
        refine kk_aload_n 0 rfl e_X9_prepare_45 ?_
        refine kk_getr e_X9_prepare_46 fl_X9_31 rfl rfl ?_
        refine kk_getr e_X9_prepare_49 fl_X9_69 rfl rfl ?_
        refine kk_iload_n 1 rfl e_X9_prepare_52 ?_
        refine kk_iald e_X9_prepare_53 rfl h.1 ?_
        replace h := h.2
        refine kk_callSip (As := [.int (kk_rd σ_7 13 v2_6)]) (rest := [.int v2_6, .ref (Z.2.1 27)]) e_X9_prepare_54 ml_X9_72 rfl (kk_fitR (by decide) (by decide)) (Nat.le_of_ble_eq_true rfl) rfl (s_X9_spread Z (kk_rd σ_7 13 v2_6) σ_7 _ h) (fun r_9 h => ?_)
        refine kk_iast e_X9_prepare_57 rfl h.1 ?_
        replace h := h.2
        refine kk_tops (fun σ_10 eσ_10 => ?_)
        replace h := h σ_10 eσ_10
        refine kk_iinc (lv' := [(2, .int (v2_6 + (1 : Int32))), (0, .ref (Z.2.1 10))]) e_X9_prepare_58 (j := 1) rfl (ii_1 v2_6) (by decide) rfl ?_
        refine kk_goto e_X9_prepare_61 ?_
        exact kk_sub [1, 0] rfl (hrec_8 (v2_6 + (1 : Int32)) σ_10 h)
theorem e_X9_countKinds_0 : kk_d cX9_countKinds 0 (.aload_n 0) 1 1 := ⟨by decide +kernel, rfl⟩
theorem e_X9_countKinds_1 : kk_d cX9_countKinds 1 (.iload_n 1) 1 2 := ⟨by decide +kernel, rfl⟩
theorem e_X9_countKinds_2 : kk_d cX9_countKinds 2 (.invokevirtual 35) 3 5 := ⟨by decide +kernel, rfl⟩
theorem e_X9_countKinds_5 : kk_d cX9_countKinds 5 (.aload_n 0) 1 6 := ⟨by decide +kernel, rfl⟩
theorem e_X9_countKinds_6 : kk_d cX9_countKinds 6 (.iconst 0) 1 7 := ⟨by decide +kernel, rfl⟩
theorem e_X9_countKinds_7 : kk_d cX9_countKinds 7 (.putfield 28) 3 10 := ⟨by decide +kernel, rfl⟩
theorem e_X9_countKinds_10 : kk_d cX9_countKinds 10 (.aload_n 0) 1 11 := ⟨by decide +kernel, rfl⟩
theorem e_X9_countKinds_11 : kk_d cX9_countKinds 11 (.iconst 0) 1 12 := ⟨by decide +kernel, rfl⟩
theorem e_X9_countKinds_12 : kk_d cX9_countKinds 12 (.iconst 0) 1 13 := ⟨by decide +kernel, rfl⟩
theorem e_X9_countKinds_13 : kk_d cX9_countKinds 13 (.invokevirtual 39) 3 16 := ⟨by decide +kernel, rfl⟩
theorem e_X9_countKinds_16 : kk_d cX9_countKinds 16 (.aload_n 0) 1 17 := ⟨by decide +kernel, rfl⟩
theorem e_X9_countKinds_17 : kk_d cX9_countKinds 17 (.getfield 28) 3 20 := ⟨by decide +kernel, rfl⟩
theorem e_X9_countKinds_20 : kk_d cX9_countKinds 20 .ireturn 1 21 := ⟨by decide +kernel, rfl⟩
set_option maxRecDepth 4000 in
theorem s_X9_countKinds (Z : kk_Z) (v1 : Int32) (σ : kk_St) (Q : Int32 → kk_St → Prop) (h : f_X9_countKinds v1 σ Q) : kk_M Z sh_C yX9_countKinds cX9_countKinds 2 (some .int) (kk_R 38) [.ref (Z.2.1 10), .int v1] σ (kk_Qi Z sh_C Q) := by
  unfold f_X9_countKinds at h
  refine kk_met (own := RX9) (by decide) rfl (Nat.le_of_ble_eq_true rfl) rfl ?_
  refine kk_aload_n 0 rfl e_X9_countKinds_0 ?_
  refine kk_iload_n 1 rfl e_X9_countKinds_1 ?_
  refine kk_callVv (As := [.int v1]) (rest := []) e_X9_countKinds_2 ml_X9_35 ⟨_, _, _, _, rfl, rfl⟩ rfl (kk_fitR (by decide) (by decide)) (Nat.le_of_ble_eq_true rfl) rfl (s_X9_prepare Z v1 σ _ h) (fun σ_1 h => ?_)
  refine kk_aload_n 0 rfl e_X9_countKinds_5 ?_
  refine kk_iconst ic_0 e_X9_countKinds_6 ?_
  refine kk_puti e_X9_countKinds_7 fl_X9_28 fn_X9_6 rfl rfl ?_
  refine kk_tops (fun σ_2 eσ_2 => ?_)
  replace h := h σ_2 eσ_2
  refine kk_aload_n 0 rfl e_X9_countKinds_10 ?_
  refine kk_iconst ic_0 e_X9_countKinds_11 ?_
  refine kk_iconst ic_0 e_X9_countKinds_12 ?_
  refine kk_callVv (As := [.int (0 : Int32), .int (0 : Int32)]) (rest := []) e_X9_countKinds_13 ml_X9_39 ⟨_, _, _, _, rfl, rfl⟩ rfl (kk_fitR (by decide) (by decide)) (Nat.le_of_ble_eq_true rfl) rfl (s_X9_place Z 30 (0 : Int32) (0 : Int32) σ_2 _ h) (fun σ_3 h => ?_)
  refine kk_aload_n 0 rfl e_X9_countKinds_16 ?_
  refine kk_geti e_X9_countKinds_17 fl_X9_28 rfl rfl ?_
  exact kk_iret e_X9_countKinds_20 h
theorem e_X10_kinds_0 : kk_d cX10_kinds 0 (.iload_n 1) 1 1 := ⟨by decide +kernel, rfl⟩
theorem e_X10_kinds_1 : kk_d cX10_kinds 1 (.iconst 1) 1 2 := ⟨by decide +kernel, rfl⟩
theorem e_X10_kinds_2 : kk_dj cX10_kinds 2 (.if_icmp .lt 8) 3 (8) 5 10 := ⟨by decide +kernel, rfl, by decide⟩
theorem e_X10_kinds_10 : kk_d cX10_kinds 10 (.iconst (-1)) 1 11 := ⟨by decide +kernel, rfl⟩
theorem e_X10_kinds_11 : kk_d cX10_kinds 11 .ireturn 1 12 := ⟨by decide +kernel, rfl⟩
theorem e_X10_kinds_5 : kk_d cX10_kinds 5 (.iload_n 1) 1 6 := ⟨by decide +kernel, rfl⟩
theorem e_X10_kinds_6 : kk_d cX10_kinds 6 (.iconst 4) 1 7 := ⟨by decide +kernel, rfl⟩
theorem e_X10_kinds_7 : kk_dj cX10_kinds 7 (.if_icmp .le 5) 3 (5) 10 12 := ⟨by decide +kernel, rfl, by decide⟩
theorem e_X10_kinds_12 : kk_d cX10_kinds 12 (.aload_n 0) 1 13 := ⟨by decide +kernel, rfl⟩
theorem e_X10_kinds_13 : kk_d cX10_kinds 13 (.getfield 10) 3 16 := ⟨by decide +kernel, rfl⟩
theorem e_X10_kinds_16 : kk_d cX10_kinds 16 (.getfield 112) 3 19 := ⟨by decide +kernel, rfl⟩
theorem e_X10_kinds_19 : kk_d cX10_kinds 19 (.bipush 6) 2 21 := ⟨by decide +kernel, rfl⟩
theorem e_X10_kinds_21 : kk_dj cX10_kinds 21 (.if_icmp .le 8) 3 (8) 24 29 := ⟨by decide +kernel, rfl, by decide⟩
theorem e_X10_kinds_37 : kk_d cX10_kinds 37 .ireturn 1 38 := ⟨by decide +kernel, rfl⟩
theorem e_X10_kinds_29 : kk_d cX10_kinds 29 (.aload_n 0) 1 30 := ⟨by decide +kernel, rfl⟩
theorem e_X10_kinds_30 : kk_d cX10_kinds 30 (.getfield 81) 3 33 := ⟨by decide +kernel, rfl⟩
theorem e_X10_kinds_33 : kk_d cX10_kinds 33 (.iload_n 1) 1 34 := ⟨by decide +kernel, rfl⟩
theorem e_X10_kinds_34 : kk_d cX10_kinds 34 (.invokevirtual 300) 3 37 := ⟨by decide +kernel, rfl⟩
theorem e_X10_kinds_24 : kk_d cX10_kinds 24 (.bipush (-2)) 2 26 := ⟨by decide +kernel, rfl⟩
theorem e_X10_kinds_26 : kk_dj cX10_kinds 26 (.goto 11) 3 (11) 29 37 := ⟨by decide +kernel, rfl, by decide⟩
set_option maxRecDepth 4000 in
theorem s_X10_kinds (Z : kk_Z) (v1 : Int32) (σ : kk_St) (Q : Int32 → kk_St → Prop) (h : f_X10_kinds v1 σ Q) : kk_M Z sh_C yX10_kinds cX10_kinds 2 (some .int) (kk_R 39) [.ref (Z.2.1 0), .int v1] σ (kk_Qi Z sh_C Q) := by
  unfold f_X10_kinds at h
  refine kk_met (own := RX10) (by decide) rfl (Nat.le_of_ble_eq_true rfl) rfl ?_
  refine kk_iload_n 1 rfl e_X10_kinds_0 ?_
  refine kk_iconst ic_1 e_X10_kinds_1 ?_
  refine kk_jW0 (P := KK Z sh_C RX10 cX10_kinds 2 (some .int) (kk_R 39) (kk_Qi Z sh_C Q) 10 [] [] σ) h ?_ ?_
  · intro h
    refine kk_iconst ic_m1 e_X10_kinds_10 ?_
    exact kk_iret e_X10_kinds_11 h
  · intro J_1 hJ_1 h
    refine kk_icmp_lt e_X10_kinds_2 (fun c_9 => ?_) (fun c_9 => ?_)
    · replace h := h.1 c_9
      exact kk_sub [] rfl (hJ_1 h)
    · replace h := h.2 c_9
      refine kk_iload_n 1 rfl e_X10_kinds_5 ?_
      refine kk_iconst ic_4 e_X10_kinds_6 ?_
      refine kk_icmp_le e_X10_kinds_7 (fun c_8 => ?_) (fun c_8 => ?_)
      · replace h := h.1 c_8
        refine kk_aload_n 0 rfl e_X10_kinds_12 ?_
        refine kk_getr e_X10_kinds_13 fl_X10_10 rfl rfl ?_
        refine kk_geti e_X10_kinds_16 fl_X10_112 rfl rfl ?_
        refine kk_bipush bp_6 e_X10_kinds_19 ?_
        refine kk_jW2 (P := fun (t_2 : Int32) (σ_3 : kk_St) => KK Z sh_C RX10 cX10_kinds 2 (some .int) (kk_R 39) (kk_Qi Z sh_C Q) 37 [] [.int t_2] σ_3) h ?_ ?_
        · intro t_2 σ_3 h
          exact kk_iret e_X10_kinds_37 h
        · intro J_4 hJ_4 h
          refine kk_icmp_le e_X10_kinds_21 (fun c_7 => ?_) (fun c_7 => ?_)
          · replace h := h.1 c_7
            refine kk_aload_n 0 rfl e_X10_kinds_29 ?_
            refine kk_getr e_X10_kinds_30 fl_X10_81 rfl rfl ?_
            refine kk_iload_n 1 rfl e_X10_kinds_33 ?_
            refine kk_callVi (As := [.int v1]) (rest := []) e_X10_kinds_34 ml_X10_300 ⟨_, _, _, _, rfl, rfl⟩ rfl (kk_fitR (by decide) (by decide)) (Nat.le_of_ble_eq_true rfl) rfl (s_X9_countKinds Z v1 σ _ h) (fun r_5 σ_6 h => ?_)
            exact kk_sub [] rfl (hJ_4 r_5 σ_6 h)
          · replace h := h.2 c_7
            refine kk_bipush bp_m2 e_X10_kinds_24 ?_
            refine kk_goto e_X10_kinds_26 ?_
            exact kk_sub [] rfl (hJ_4 (-2 : Int32) σ h)
      · replace h := h.2 c_8
        exact kk_sub [] rfl (hJ_1 h)
theorem e_X6_add_0 : kk_d cX6_add 0 (.aload_n 0) 1 1 := ⟨by decide +kernel, rfl⟩
theorem e_X6_add_1 : kk_d cX6_add 1 (.getfield 31) 3 4 := ⟨by decide +kernel, rfl⟩
theorem e_X6_add_4 : kk_d cX6_add 4 (.istore_n 3) 1 5 := ⟨by decide +kernel, rfl⟩
theorem e_X6_add_5 : kk_d cX6_add 5 (.aload_n 0) 1 6 := ⟨by decide +kernel, rfl⟩
theorem e_X6_add_6 : kk_d cX6_add 6 (.getfield 21) 3 9 := ⟨by decide +kernel, rfl⟩
theorem e_X6_add_9 : kk_d cX6_add 9 (.iload_n 1) 1 10 := ⟨by decide +kernel, rfl⟩
theorem e_X6_add_10 : kk_d cX6_add 10 .iaload 1 11 := ⟨by decide +kernel, rfl⟩
theorem e_X6_add_11 : kk_d cX6_add 11 (.aload_n 0) 1 12 := ⟨by decide +kernel, rfl⟩
theorem e_X6_add_12 : kk_d cX6_add 12 (.getfield 21) 3 15 := ⟨by decide +kernel, rfl⟩
theorem e_X6_add_15 : kk_d cX6_add 15 (.iload_n 2) 1 16 := ⟨by decide +kernel, rfl⟩
theorem e_X6_add_16 : kk_d cX6_add 16 .iaload 1 17 := ⟨by decide +kernel, rfl⟩
theorem e_X6_add_17 : kk_d cX6_add 17 .ior 1 18 := ⟨by decide +kernel, rfl⟩
theorem e_X6_add_18 : kk_d cX6_add 18 (.istore 4) 2 20 := ⟨by decide +kernel, rfl⟩
theorem e_X6_add_20 : kk_d cX6_add 20 (.iconst 0) 1 21 := ⟨by decide +kernel, rfl⟩
theorem e_X6_add_21 : kk_d cX6_add 21 (.istore 5) 2 23 := ⟨by decide +kernel, rfl⟩
theorem e_X6_add_23 : kk_d cX6_add 23 (.iload 5) 2 25 := ⟨by decide +kernel, rfl⟩
theorem e_X6_add_25 : kk_d cX6_add 25 (.iload_n 3) 1 26 := ⟨by decide +kernel, rfl⟩
theorem e_X6_add_26 : kk_dj cX6_add 26 (.if_icmp .ge 32) 3 (32) 29 58 := ⟨by decide +kernel, rfl, by decide⟩
theorem e_X6_add_58 : kk_d cX6_add 58 (.aload_n 0) 1 59 := ⟨by decide +kernel, rfl⟩
theorem e_X6_add_59 : kk_d cX6_add 59 (.getfield 9) 3 62 := ⟨by decide +kernel, rfl⟩
theorem e_X6_add_62 : kk_d cX6_add 62 (.iload_n 3) 1 63 := ⟨by decide +kernel, rfl⟩
theorem e_X6_add_63 : kk_d cX6_add 63 (.iload_n 1) 1 64 := ⟨by decide +kernel, rfl⟩
theorem e_X6_add_64 : kk_d cX6_add 64 (.iload_n 2) 1 65 := ⟨by decide +kernel, rfl⟩
theorem e_X6_add_65 : kk_d cX6_add 65 (.invokestatic 43) 3 68 := ⟨by decide +kernel, rfl⟩
theorem e_X6_add_68 : kk_d cX6_add 68 .iastore 1 69 := ⟨by decide +kernel, rfl⟩
theorem e_X6_add_69 : kk_d cX6_add 69 (.aload_n 0) 1 70 := ⟨by decide +kernel, rfl⟩
theorem e_X6_add_70 : kk_d cX6_add 70 (.getfield 15) 3 73 := ⟨by decide +kernel, rfl⟩
theorem e_X6_add_73 : kk_d cX6_add 73 (.iload_n 3) 1 74 := ⟨by decide +kernel, rfl⟩
theorem e_X6_add_74 : kk_d cX6_add 74 (.iload_n 1) 1 75 := ⟨by decide +kernel, rfl⟩
theorem e_X6_add_75 : kk_d cX6_add 75 (.iload_n 2) 1 76 := ⟨by decide +kernel, rfl⟩
theorem e_X6_add_76 : kk_d cX6_add 76 (.invokestatic 49) 3 79 := ⟨by decide +kernel, rfl⟩
theorem e_X6_add_79 : kk_d cX6_add 79 .iastore 1 80 := ⟨by decide +kernel, rfl⟩
theorem e_X6_add_80 : kk_d cX6_add 80 (.aload_n 0) 1 81 := ⟨by decide +kernel, rfl⟩
theorem e_X6_add_81 : kk_d cX6_add 81 (.getfield 18) 3 84 := ⟨by decide +kernel, rfl⟩
theorem e_X6_add_84 : kk_d cX6_add 84 (.iload_n 3) 1 85 := ⟨by decide +kernel, rfl⟩
theorem e_X6_add_85 : kk_d cX6_add 85 (.iload 4) 2 87 := ⟨by decide +kernel, rfl⟩
theorem e_X6_add_87 : kk_d cX6_add 87 .iastore 1 88 := ⟨by decide +kernel, rfl⟩
theorem e_X6_add_88 : kk_d cX6_add 88 (.aload_n 0) 1 89 := ⟨by decide +kernel, rfl⟩
theorem e_X6_add_89 : kk_d cX6_add 89 (.getfield 21) 3 92 := ⟨by decide +kernel, rfl⟩
theorem e_X6_add_92 : kk_d cX6_add 92 (.iload_n 1) 1 93 := ⟨by decide +kernel, rfl⟩
theorem e_X6_add_93 : kk_d cX6_add 93 .dup2 1 94 := ⟨by decide +kernel, rfl⟩
theorem e_X6_add_94 : kk_d cX6_add 94 .iaload 1 95 := ⟨by decide +kernel, rfl⟩
theorem e_X6_add_95 : kk_d cX6_add 95 (.iconst 1) 1 96 := ⟨by decide +kernel, rfl⟩
theorem e_X6_add_96 : kk_d cX6_add 96 (.iload_n 3) 1 97 := ⟨by decide +kernel, rfl⟩
theorem e_X6_add_97 : kk_d cX6_add 97 .ishl 1 98 := ⟨by decide +kernel, rfl⟩
theorem e_X6_add_98 : kk_d cX6_add 98 .ior 1 99 := ⟨by decide +kernel, rfl⟩
theorem e_X6_add_99 : kk_d cX6_add 99 .iastore 1 100 := ⟨by decide +kernel, rfl⟩
theorem e_X6_add_100 : kk_d cX6_add 100 (.aload_n 0) 1 101 := ⟨by decide +kernel, rfl⟩
theorem e_X6_add_101 : kk_d cX6_add 101 (.getfield 21) 3 104 := ⟨by decide +kernel, rfl⟩
theorem e_X6_add_104 : kk_d cX6_add 104 (.iload_n 2) 1 105 := ⟨by decide +kernel, rfl⟩
theorem e_X6_add_105 : kk_d cX6_add 105 .dup2 1 106 := ⟨by decide +kernel, rfl⟩
theorem e_X6_add_106 : kk_d cX6_add 106 .iaload 1 107 := ⟨by decide +kernel, rfl⟩
theorem e_X6_add_107 : kk_d cX6_add 107 (.iconst 1) 1 108 := ⟨by decide +kernel, rfl⟩
theorem e_X6_add_108 : kk_d cX6_add 108 (.iload_n 3) 1 109 := ⟨by decide +kernel, rfl⟩
theorem e_X6_add_109 : kk_d cX6_add 109 .ishl 1 110 := ⟨by decide +kernel, rfl⟩
theorem e_X6_add_110 : kk_d cX6_add 110 .ior 1 111 := ⟨by decide +kernel, rfl⟩
theorem e_X6_add_111 : kk_d cX6_add 111 .iastore 1 112 := ⟨by decide +kernel, rfl⟩
theorem e_X6_add_112 : kk_d cX6_add 112 (.aload_n 0) 1 113 := ⟨by decide +kernel, rfl⟩
theorem e_X6_add_113 : kk_d cX6_add 113 (.getfield 24) 3 116 := ⟨by decide +kernel, rfl⟩
theorem e_X6_add_116 : kk_d cX6_add 116 (.iload_n 1) 1 117 := ⟨by decide +kernel, rfl⟩
theorem e_X6_add_117 : kk_d cX6_add 117 .dup2 1 118 := ⟨by decide +kernel, rfl⟩
theorem e_X6_add_118 : kk_d cX6_add 118 .iaload 1 119 := ⟨by decide +kernel, rfl⟩
theorem e_X6_add_119 : kk_d cX6_add 119 (.iconst 1) 1 120 := ⟨by decide +kernel, rfl⟩
theorem e_X6_add_120 : kk_d cX6_add 120 (.iload_n 2) 1 121 := ⟨by decide +kernel, rfl⟩
theorem e_X6_add_121 : kk_d cX6_add 121 .ishl 1 122 := ⟨by decide +kernel, rfl⟩
theorem e_X6_add_122 : kk_d cX6_add 122 .ior 1 123 := ⟨by decide +kernel, rfl⟩
theorem e_X6_add_123 : kk_d cX6_add 123 .iastore 1 124 := ⟨by decide +kernel, rfl⟩
theorem e_X6_add_124 : kk_d cX6_add 124 (.aload_n 0) 1 125 := ⟨by decide +kernel, rfl⟩
theorem e_X6_add_125 : kk_d cX6_add 125 (.getfield 24) 3 128 := ⟨by decide +kernel, rfl⟩
theorem e_X6_add_128 : kk_d cX6_add 128 (.iload_n 2) 1 129 := ⟨by decide +kernel, rfl⟩
theorem e_X6_add_129 : kk_d cX6_add 129 .dup2 1 130 := ⟨by decide +kernel, rfl⟩
theorem e_X6_add_130 : kk_d cX6_add 130 .iaload 1 131 := ⟨by decide +kernel, rfl⟩
theorem e_X6_add_131 : kk_d cX6_add 131 (.iconst 1) 1 132 := ⟨by decide +kernel, rfl⟩
theorem e_X6_add_132 : kk_d cX6_add 132 (.iload_n 1) 1 133 := ⟨by decide +kernel, rfl⟩
theorem e_X6_add_133 : kk_d cX6_add 133 .ishl 1 134 := ⟨by decide +kernel, rfl⟩
theorem e_X6_add_134 : kk_d cX6_add 134 .ior 1 135 := ⟨by decide +kernel, rfl⟩
theorem e_X6_add_135 : kk_d cX6_add 135 .iastore 1 136 := ⟨by decide +kernel, rfl⟩
theorem e_X6_add_136 : kk_d cX6_add 136 (.aload_n 0) 1 137 := ⟨by decide +kernel, rfl⟩
theorem e_X6_add_137 : kk_d cX6_add 137 .dup 1 138 := ⟨by decide +kernel, rfl⟩
theorem e_X6_add_138 : kk_d cX6_add 138 (.getfield 31) 3 141 := ⟨by decide +kernel, rfl⟩
theorem e_X6_add_141 : kk_d cX6_add 141 (.iconst 1) 1 142 := ⟨by decide +kernel, rfl⟩
theorem e_X6_add_142 : kk_d cX6_add 142 .iadd 1 143 := ⟨by decide +kernel, rfl⟩
theorem e_X6_add_143 : kk_d cX6_add 143 (.putfield 31) 3 146 := ⟨by decide +kernel, rfl⟩
theorem e_X6_add_146 : kk_d cX6_add 146 (.aload_n 0) 1 147 := ⟨by decide +kernel, rfl⟩
theorem e_X6_add_147 : kk_d cX6_add 147 (.aload_n 0) 1 148 := ⟨by decide +kernel, rfl⟩
theorem e_X6_add_148 : kk_d cX6_add 148 (.aload_n 0) 1 149 := ⟨by decide +kernel, rfl⟩
theorem e_X6_add_149 : kk_d cX6_add 149 (.invokevirtual 52) 3 152 := ⟨by decide +kernel, rfl⟩
theorem e_X6_add_152 : kk_d cX6_add 152 (.invokevirtual 56) 3 155 := ⟨by decide +kernel, rfl⟩
theorem e_X6_add_155 : kk_d cX6_add 155 (.putfield 34) 3 158 := ⟨by decide +kernel, rfl⟩
theorem e_X6_add_158 : kk_d cX6_add 158 .return_ 1 159 := ⟨by decide +kernel, rfl⟩
theorem e_X6_add_29 : kk_d cX6_add 29 (.iload 4) 2 31 := ⟨by decide +kernel, rfl⟩
theorem e_X6_add_31 : kk_d cX6_add 31 (.iload 5) 2 33 := ⟨by decide +kernel, rfl⟩
theorem e_X6_add_33 : kk_d cX6_add 33 .ishr 1 34 := ⟨by decide +kernel, rfl⟩
theorem e_X6_add_34 : kk_d cX6_add 34 (.iconst 1) 1 35 := ⟨by decide +kernel, rfl⟩
theorem e_X6_add_35 : kk_d cX6_add 35 .iand 1 36 := ⟨by decide +kernel, rfl⟩
theorem e_X6_add_36 : kk_dj cX6_add 36 (.ifCond .eq 16) 3 (16) 39 52 := ⟨by decide +kernel, rfl, by decide⟩
theorem e_X6_add_52 : kk_d cX6_add 52 (.iinc 5 1) 3 55 := ⟨by decide +kernel, rfl⟩
theorem e_X6_add_55 : kk_dj cX6_add 55 (.goto (-32)) 3 (-32) 58 23 := ⟨by decide +kernel, rfl, by decide⟩
theorem e_X6_add_39 : kk_d cX6_add 39 (.aload_n 0) 1 40 := ⟨by decide +kernel, rfl⟩
theorem e_X6_add_40 : kk_d cX6_add 40 (.getfield 18) 3 43 := ⟨by decide +kernel, rfl⟩
theorem e_X6_add_43 : kk_d cX6_add 43 (.iload 5) 2 45 := ⟨by decide +kernel, rfl⟩
theorem e_X6_add_45 : kk_d cX6_add 45 .dup2 1 46 := ⟨by decide +kernel, rfl⟩
theorem e_X6_add_46 : kk_d cX6_add 46 .iaload 1 47 := ⟨by decide +kernel, rfl⟩
theorem e_X6_add_47 : kk_d cX6_add 47 (.iconst 1) 1 48 := ⟨by decide +kernel, rfl⟩
theorem e_X6_add_48 : kk_d cX6_add 48 (.iload_n 3) 1 49 := ⟨by decide +kernel, rfl⟩
theorem e_X6_add_49 : kk_d cX6_add 49 .ishl 1 50 := ⟨by decide +kernel, rfl⟩
theorem e_X6_add_50 : kk_d cX6_add 50 .ior 1 51 := ⟨by decide +kernel, rfl⟩
theorem e_X6_add_51 : kk_d cX6_add 51 .iastore 1 52 := ⟨by decide +kernel, rfl⟩
set_option maxRecDepth 4000 in
theorem s_X6_add (Z : kk_Z) (v1 : Int32) (v2 : Int32) (σ : kk_St) (Q : kk_St → Prop) (h : f_X6_add v1 v2 σ Q) : kk_M Z sh_C yX6_add cX6_add 6 none (kk_R 4) [.ref (Z.2.1 1), .int v1, .int v2] σ (kk_Qv Z sh_C Q) := by
  unfold f_X6_add at h
  refine kk_met (own := RX6) (by decide) rfl (Nat.le_of_ble_eq_true rfl) rfl ?_
  refine kk_aload_n 0 rfl e_X6_add_0 ?_
  refine kk_geti e_X6_add_1 fl_X6_31 rfl rfl ?_
  refine kk_istore_n (lv' := [(3, .int (σ.1 1 6)), (0, .ref (Z.2.1 1)), (1, .int v1), (2, .int v2)]) e_X6_add_4 rfl (by decide) rfl ?_
  refine kk_aload_n 1 rfl e_X6_add_5 ?_
  refine kk_getr e_X6_add_6 fl_X6_21 rfl rfl ?_
  refine kk_iload_n 2 rfl e_X6_add_9 ?_
  refine kk_iald e_X6_add_10 rfl h.1 ?_
  replace h := h.2
  refine kk_aload_n 1 rfl e_X6_add_11 ?_
  refine kk_getr e_X6_add_12 fl_X6_21 rfl rfl ?_
  refine kk_iload_n 3 rfl e_X6_add_15 ?_
  refine kk_iald e_X6_add_16 rfl h.1 ?_
  replace h := h.2
  refine kk_ior e_X6_add_17 ?_
  refine kk_topi (fun v4_1 ev4_1 => ?_)
  replace h := h v4_1 ev4_1
  refine kk_istore (lv' := [(4, .int v4_1), (3, .int (σ.1 1 6)), (0, .ref (Z.2.1 1)), (1, .int v1), (2, .int v2)]) e_X6_add_18 (by decide) rfl ?_
  refine kk_iconst ic_0 e_X6_add_20 ?_
  refine kk_istore (lv' := [(5, .int (0 : Int32)), (4, .int v4_1), (3, .int (σ.1 1 6)), (0, .ref (Z.2.1 1)), (1, .int v1), (2, .int v2)]) e_X6_add_21 (by decide) rfl ?_
  refine kk_sub [3, 4, 5, 2, 1, 0] rfl ?_
  refine kk_lpW2 (P := fun (v5_2 : Int32) (σ_3 : kk_St) => KK Z sh_C RX6 cX6_add 6 none (kk_R 4) (kk_Qv Z sh_C Q) 23 [(0, .ref (Z.2.1 1)), (1, .int v1), (2, .int v2), (3, .int (σ.1 1 6)), (4, .int v4_1), (5, .int v5_2)] [] σ_3) ?_ h
  intro rec_4 hrec_4 v5_2 σ_3 h
  refine kk_iload 5 rfl e_X6_add_23 ?_
  refine kk_iload_n 3 rfl e_X6_add_25 ?_
  refine kk_icmp_ge e_X6_add_26 (fun c_20 => ?_) (fun c_20 => ?_)
  · replace h := h.1 c_20
    refine kk_aload_n 0 rfl e_X6_add_58 ?_
    refine kk_getr e_X6_add_59 fl_X6_9 rfl rfl ?_
    refine kk_iload_n 3 rfl e_X6_add_62 ?_
    refine kk_iload_n 1 rfl e_X6_add_63 ?_
    refine kk_iload_n 2 rfl e_X6_add_64 ?_
    refine kk_mmin e_X6_add_65 mx_X6_43 mx_min_static mx_init mx_min_code ⟨Nat.le_of_ble_eq_true rfl, Nat.le_of_ble_eq_true rfl⟩ ?_
    refine kk_iast e_X6_add_68 rfl h.1 ?_
    replace h := h.2
    refine kk_tops (fun σ_5 eσ_5 => ?_)
    replace h := h σ_5 eσ_5
    refine kk_aload_n 0 rfl e_X6_add_69 ?_
    refine kk_getr e_X6_add_70 fl_X6_15 rfl rfl ?_
    refine kk_iload_n 3 rfl e_X6_add_73 ?_
    refine kk_iload_n 1 rfl e_X6_add_74 ?_
    refine kk_iload_n 2 rfl e_X6_add_75 ?_
    refine kk_mmax e_X6_add_76 mx_X6_49 mx_max_static mx_init mx_max_code ⟨Nat.le_of_ble_eq_true rfl, Nat.le_of_ble_eq_true rfl⟩ ?_
    refine kk_iast e_X6_add_79 rfl h.1 ?_
    replace h := h.2
    refine kk_tops (fun σ_6 eσ_6 => ?_)
    replace h := h σ_6 eσ_6
    refine kk_aload_n 0 rfl e_X6_add_80 ?_
    refine kk_getr e_X6_add_81 fl_X6_18 rfl rfl ?_
    refine kk_iload_n 3 rfl e_X6_add_84 ?_
    refine kk_iload 4 rfl e_X6_add_85 ?_
    refine kk_iast e_X6_add_87 rfl h.1 ?_
    replace h := h.2
    refine kk_tops (fun σ_7 eσ_7 => ?_)
    replace h := h σ_7 eσ_7
    refine kk_aload_n 0 rfl e_X6_add_88 ?_
    refine kk_getr e_X6_add_89 fl_X6_21 rfl rfl ?_
    refine kk_iload_n 1 rfl e_X6_add_92 ?_
    refine kk_dup2 rfl rfl e_X6_add_93 ?_
    refine kk_iald e_X6_add_94 rfl h.1 ?_
    replace h := h.2
    refine kk_iconst ic_1 e_X6_add_95 ?_
    refine kk_iload_n 3 rfl e_X6_add_96 ?_
    refine kk_ishl e_X6_add_97 ?_
    refine kk_ior e_X6_add_98 ?_
    refine kk_iast e_X6_add_99 rfl h.1 ?_
    replace h := h.2
    refine kk_tops (fun σ_8 eσ_8 => ?_)
    replace h := h σ_8 eσ_8
    refine kk_aload_n 0 rfl e_X6_add_100 ?_
    refine kk_getr e_X6_add_101 fl_X6_21 rfl rfl ?_
    refine kk_iload_n 2 rfl e_X6_add_104 ?_
    refine kk_dup2 rfl rfl e_X6_add_105 ?_
    refine kk_iald e_X6_add_106 rfl h.1 ?_
    replace h := h.2
    refine kk_iconst ic_1 e_X6_add_107 ?_
    refine kk_iload_n 3 rfl e_X6_add_108 ?_
    refine kk_ishl e_X6_add_109 ?_
    refine kk_ior e_X6_add_110 ?_
    refine kk_iast e_X6_add_111 rfl h.1 ?_
    replace h := h.2
    refine kk_tops (fun σ_9 eσ_9 => ?_)
    replace h := h σ_9 eσ_9
    refine kk_aload_n 0 rfl e_X6_add_112 ?_
    refine kk_getr e_X6_add_113 fl_X6_24 rfl rfl ?_
    refine kk_iload_n 1 rfl e_X6_add_116 ?_
    refine kk_dup2 rfl rfl e_X6_add_117 ?_
    refine kk_iald e_X6_add_118 rfl h.1 ?_
    replace h := h.2
    refine kk_iconst ic_1 e_X6_add_119 ?_
    refine kk_iload_n 2 rfl e_X6_add_120 ?_
    refine kk_ishl e_X6_add_121 ?_
    refine kk_ior e_X6_add_122 ?_
    refine kk_iast e_X6_add_123 rfl h.1 ?_
    replace h := h.2
    refine kk_tops (fun σ_10 eσ_10 => ?_)
    replace h := h σ_10 eσ_10
    refine kk_aload_n 0 rfl e_X6_add_124 ?_
    refine kk_getr e_X6_add_125 fl_X6_24 rfl rfl ?_
    refine kk_iload_n 2 rfl e_X6_add_128 ?_
    refine kk_dup2 rfl rfl e_X6_add_129 ?_
    refine kk_iald e_X6_add_130 rfl h.1 ?_
    replace h := h.2
    refine kk_iconst ic_1 e_X6_add_131 ?_
    refine kk_iload_n 1 rfl e_X6_add_132 ?_
    refine kk_ishl e_X6_add_133 ?_
    refine kk_ior e_X6_add_134 ?_
    refine kk_iast e_X6_add_135 rfl h.1 ?_
    replace h := h.2
    refine kk_tops (fun σ_11 eσ_11 => ?_)
    replace h := h σ_11 eσ_11
    refine kk_aload_n 0 rfl e_X6_add_136 ?_
    refine kk_dup rfl e_X6_add_137 ?_
    refine kk_geti e_X6_add_138 fl_X6_31 rfl rfl ?_
    refine kk_iconst ic_1 e_X6_add_141 ?_
    refine kk_iadd e_X6_add_142 ?_
    refine kk_puti e_X6_add_143 fl_X6_31 fn_X6_6 rfl rfl ?_
    refine kk_tops (fun σ_12 eσ_12 => ?_)
    replace h := h σ_12 eσ_12
    refine kk_aload_n 0 rfl e_X6_add_146 ?_
    refine kk_aload_n 0 rfl e_X6_add_147 ?_
    refine kk_aload_n 0 rfl e_X6_add_148 ?_
    refine kk_callVip (As := []) (rest := [.ref (Z.2.1 1), .ref (Z.2.1 1)]) e_X6_add_149 ml_X6_52 ⟨_, _, _, _, rfl, rfl⟩ rfl (kk_fitR (by decide) (by decide)) (Nat.le_of_ble_eq_true rfl) rfl (s_X6_allLines Z σ_12 _ h) (fun r_13 h => ?_)
    refine kk_callVip (As := [.int r_13]) (rest := [.ref (Z.2.1 1)]) e_X6_add_152 ml_X6_56 ⟨_, _, _, _, rfl, rfl⟩ rfl (kk_fitR (by decide) (by decide)) (Nat.le_of_ble_eq_true rfl) rfl (s_X6_mostAtOnePost Z r_13 σ_12 _ h) (fun r_14 h => ?_)
    refine kk_puti e_X6_add_155 fl_X6_34 fn_X6_7 rfl rfl ?_
    refine kk_tops (fun σ_15 eσ_15 => ?_)
    replace h := h σ_15 eσ_15
    exact kk_vret e_X6_add_158 h
  · replace h := h.2 c_20
    refine kk_iload 4 rfl e_X6_add_29 ?_
    refine kk_iload 5 rfl e_X6_add_31 ?_
    refine kk_ishr e_X6_add_33 ?_
    refine kk_iconst ic_1 e_X6_add_34 ?_
    refine kk_iand e_X6_add_35 ?_
    refine kk_jW1 (P := fun (σ_16 : kk_St) => KK Z sh_C RX6 cX6_add 6 none (kk_R 4) (kk_Qv Z sh_C Q) 52 [(0, .ref (Z.2.1 1)), (1, .int v1), (2, .int v2), (3, .int (σ.1 1 6)), (4, .int v4_1), (5, .int v5_2)] [] σ_16) h ?_ ?_
    · intro σ_16 h
      refine kk_iinc (lv' := [(5, .int (v5_2 + (1 : Int32))), (0, .ref (Z.2.1 1)), (1, .int v1), (2, .int v2), (3, .int (σ.1 1 6)), (4, .int v4_1)]) e_X6_add_52 (j := 5) rfl (ii_1 v5_2) (by decide) rfl ?_
      refine kk_goto e_X6_add_55 ?_
      exact kk_sub [1, 2, 3, 4, 5, 0] rfl (hrec_4 (v5_2 + (1 : Int32)) σ_16 h)
    · intro J_17 hJ_17 h
      refine kk_if_eq e_X6_add_36 (fun c_19 => ?_) (fun c_19 => ?_)
      · replace h := h.1 c_19
        exact kk_sub [0, 1, 2, 3, 4, 5] rfl (hJ_17 σ_3 h)
      · replace h := h.2 c_19
        refine kk_aload_n 0 rfl e_X6_add_39 ?_
        refine kk_getr e_X6_add_40 fl_X6_18 rfl rfl ?_
        refine kk_iload 5 rfl e_X6_add_43 ?_
        refine kk_dup2 rfl rfl e_X6_add_45 ?_
        refine kk_iald e_X6_add_46 rfl h.1 ?_
        replace h := h.2
        refine kk_iconst ic_1 e_X6_add_47 ?_
        refine kk_iload_n 3 rfl e_X6_add_48 ?_
        refine kk_ishl e_X6_add_49 ?_
        refine kk_ior e_X6_add_50 ?_
        refine kk_iast e_X6_add_51 rfl h.1 ?_
        replace h := h.2
        refine kk_tops (fun σ_18 eσ_18 => ?_)
        replace h := h σ_18 eσ_18
        exact kk_sub [0, 1, 2, 3, 4, 5] rfl (hJ_17 σ_18 h)
theorem e_X10_line_0 : kk_d cX10_line 0 (.aload_n 0) 1 1 := ⟨by decide +kernel, rfl⟩
theorem e_X10_line_1 : kk_d cX10_line 1 (.getfield 10) 3 4 := ⟨by decide +kernel, rfl⟩
theorem e_X10_line_4 : kk_d cX10_line 4 (.iload_n 1) 1 5 := ⟨by decide +kernel, rfl⟩
theorem e_X10_line_5 : kk_d cX10_line 5 (.invokevirtual 108) 3 8 := ⟨by decide +kernel, rfl⟩
theorem e_X10_line_8 : kk_dj cX10_line 8 (.ifCond .eq 19) 3 (19) 11 27 := ⟨by decide +kernel, rfl, by decide⟩
theorem e_X10_line_27 : kk_d cX10_line 27 (.iconst (-1)) 1 28 := ⟨by decide +kernel, rfl⟩
theorem e_X10_line_28 : kk_d cX10_line 28 .ireturn 1 29 := ⟨by decide +kernel, rfl⟩
theorem e_X10_line_11 : kk_d cX10_line 11 (.aload_n 0) 1 12 := ⟨by decide +kernel, rfl⟩
theorem e_X10_line_12 : kk_d cX10_line 12 (.getfield 10) 3 15 := ⟨by decide +kernel, rfl⟩
theorem e_X10_line_15 : kk_d cX10_line 15 (.iload_n 2) 1 16 := ⟨by decide +kernel, rfl⟩
theorem e_X10_line_16 : kk_d cX10_line 16 (.invokevirtual 108) 3 19 := ⟨by decide +kernel, rfl⟩
theorem e_X10_line_19 : kk_dj cX10_line 19 (.ifCond .eq 8) 3 (8) 22 27 := ⟨by decide +kernel, rfl, by decide⟩
theorem e_X10_line_22 : kk_d cX10_line 22 (.iload_n 1) 1 23 := ⟨by decide +kernel, rfl⟩
theorem e_X10_line_23 : kk_d cX10_line 23 (.iload_n 2) 1 24 := ⟨by decide +kernel, rfl⟩
theorem e_X10_line_24 : kk_dj cX10_line 24 (.if_icmp .ne 5) 3 (5) 27 29 := ⟨by decide +kernel, rfl, by decide⟩
theorem e_X10_line_29 : kk_d cX10_line 29 (.aload_n 0) 1 30 := ⟨by decide +kernel, rfl⟩
theorem e_X10_line_30 : kk_d cX10_line 30 (.getfield 10) 3 33 := ⟨by decide +kernel, rfl⟩
theorem e_X10_line_33 : kk_d cX10_line 33 (.getfield 112) 3 36 := ⟨by decide +kernel, rfl⟩
theorem e_X10_line_36 : kk_d cX10_line 36 (.bipush 20) 2 38 := ⟨by decide +kernel, rfl⟩
theorem e_X10_line_38 : kk_dj cX10_line 38 (.if_icmp .ge 16) 3 (16) 41 54 := ⟨by decide +kernel, rfl, by decide⟩
theorem e_X10_line_54 : kk_d cX10_line 54 (.iconst (-1)) 1 55 := ⟨by decide +kernel, rfl⟩
theorem e_X10_line_55 : kk_d cX10_line 55 .ireturn 1 56 := ⟨by decide +kernel, rfl⟩
theorem e_X10_line_41 : kk_d cX10_line 41 (.aload_n 0) 1 42 := ⟨by decide +kernel, rfl⟩
theorem e_X10_line_42 : kk_d cX10_line 42 (.getfield 10) 3 45 := ⟨by decide +kernel, rfl⟩
theorem e_X10_line_45 : kk_d cX10_line 45 (.iload_n 1) 1 46 := ⟨by decide +kernel, rfl⟩
theorem e_X10_line_46 : kk_d cX10_line 46 (.iload_n 2) 1 47 := ⟨by decide +kernel, rfl⟩
theorem e_X10_line_47 : kk_d cX10_line 47 (.invokevirtual 116) 3 50 := ⟨by decide +kernel, rfl⟩
theorem e_X10_line_50 : kk_d cX10_line 50 (.iconst (-1)) 1 51 := ⟨by decide +kernel, rfl⟩
theorem e_X10_line_51 : kk_dj cX10_line 51 (.if_icmp .eq 5) 3 (5) 54 56 := ⟨by decide +kernel, rfl, by decide⟩
theorem e_X10_line_56 : kk_d cX10_line 56 (.aload_n 0) 1 57 := ⟨by decide +kernel, rfl⟩
theorem e_X10_line_57 : kk_d cX10_line 57 (.getfield 10) 3 60 := ⟨by decide +kernel, rfl⟩
theorem e_X10_line_60 : kk_d cX10_line 60 (.getfield 112) 3 63 := ⟨by decide +kernel, rfl⟩
theorem e_X10_line_63 : kk_d cX10_line 63 (.istore_n 3) 1 64 := ⟨by decide +kernel, rfl⟩
theorem e_X10_line_64 : kk_d cX10_line 64 (.aload_n 0) 1 65 := ⟨by decide +kernel, rfl⟩
theorem e_X10_line_65 : kk_d cX10_line 65 (.getfield 10) 3 68 := ⟨by decide +kernel, rfl⟩
theorem e_X10_line_68 : kk_d cX10_line 68 (.iload_n 1) 1 69 := ⟨by decide +kernel, rfl⟩
theorem e_X10_line_69 : kk_d cX10_line 69 (.iload_n 2) 1 70 := ⟨by decide +kernel, rfl⟩
theorem e_X10_line_70 : kk_d cX10_line 70 (.invokevirtual 120) 3 73 := ⟨by decide +kernel, rfl⟩
theorem e_X10_line_73 : kk_d cX10_line 73 (.aload_n 0) 1 74 := ⟨by decide +kernel, rfl⟩
theorem e_X10_line_74 : kk_d cX10_line 74 (.getfield 89) 3 77 := ⟨by decide +kernel, rfl⟩
theorem e_X10_line_77 : kk_d cX10_line 77 (.iload_n 3) 1 78 := ⟨by decide +kernel, rfl⟩
theorem e_X10_line_78 : kk_d cX10_line 78 (.sipush 511) 3 81 := ⟨by decide +kernel, rfl⟩
theorem e_X10_line_81 : kk_d cX10_line 81 .iastore 1 82 := ⟨by decide +kernel, rfl⟩
theorem e_X10_line_82 : kk_d cX10_line 82 (.aload_n 0) 1 83 := ⟨by decide +kernel, rfl⟩
theorem e_X10_line_83 : kk_d cX10_line 83 (.getfield 60) 3 86 := ⟨by decide +kernel, rfl⟩
theorem e_X10_line_86 : kk_d cX10_line 86 (.invokevirtual 105) 3 89 := ⟨by decide +kernel, rfl⟩
theorem e_X10_line_89 : kk_d cX10_line 89 (.iload_n 3) 1 90 := ⟨by decide +kernel, rfl⟩
theorem e_X10_line_90 : kk_d cX10_line 90 .ireturn 1 91 := ⟨by decide +kernel, rfl⟩
set_option maxRecDepth 4000 in
theorem s_X10_line (Z : kk_Z) (v1 : Int32) (v2 : Int32) (σ : kk_St) (Q : Int32 → kk_St → Prop) (h : f_X10_line v1 v2 σ Q) : kk_M Z sh_C yX10_line cX10_line 4 (some .int) (kk_R 5) [.ref (Z.2.1 0), .int v1, .int v2] σ (kk_Qi Z sh_C Q) := by
  unfold f_X10_line at h
  refine kk_met (own := RX10) (by decide) rfl (Nat.le_of_ble_eq_true rfl) rfl ?_
  refine kk_aload_n 0 rfl e_X10_line_0 ?_
  refine kk_getr e_X10_line_1 fl_X10_10 rfl rfl ?_
  refine kk_iload_n 1 rfl e_X10_line_4 ?_
  refine kk_callVip (As := [.int v1]) (rest := []) e_X10_line_5 ml_X10_108 ⟨_, _, _, _, rfl, rfl⟩ rfl (kk_fitR (by decide) (by decide)) (Nat.le_of_ble_eq_true rfl) rfl (s_X6_isPost Z v1 σ _ h) (fun r_1 h => ?_)
  refine kk_jW0 (P := KK Z sh_C RX10 cX10_line 4 (some .int) (kk_R 5) (kk_Qi Z sh_C Q) 27 [] [] σ) h ?_ ?_
  · intro h
    refine kk_iconst ic_m1 e_X10_line_27 ?_
    exact kk_iret e_X10_line_28 h
  · intro J_2 hJ_2 h
    refine kk_if_eq e_X10_line_8 (fun c_13 => ?_) (fun c_13 => ?_)
    · replace h := h.1 c_13
      exact kk_sub [] rfl (hJ_2 h)
    · replace h := h.2 c_13
      refine kk_aload_n 0 rfl e_X10_line_11 ?_
      refine kk_getr e_X10_line_12 fl_X10_10 rfl rfl ?_
      refine kk_iload_n 2 rfl e_X10_line_15 ?_
      refine kk_callVip (As := [.int v2]) (rest := []) e_X10_line_16 ml_X10_108 ⟨_, _, _, _, rfl, rfl⟩ rfl (kk_fitR (by decide) (by decide)) (Nat.le_of_ble_eq_true rfl) rfl (s_X6_isPost Z v2 σ _ h) (fun r_3 h => ?_)
      refine kk_if_eq e_X10_line_19 (fun c_12 => ?_) (fun c_12 => ?_)
      · replace h := h.1 c_12
        exact kk_sub [] rfl (hJ_2 h)
      · replace h := h.2 c_12
        refine kk_iload_n 1 rfl e_X10_line_22 ?_
        refine kk_iload_n 2 rfl e_X10_line_23 ?_
        refine kk_icmp_ne e_X10_line_24 (fun c_11 => ?_) (fun c_11 => ?_)
        · replace h := h.1 c_11
          refine kk_aload_n 0 rfl e_X10_line_29 ?_
          refine kk_getr e_X10_line_30 fl_X10_10 rfl rfl ?_
          refine kk_geti e_X10_line_33 fl_X10_112 rfl rfl ?_
          refine kk_bipush bp_20 e_X10_line_36 ?_
          refine kk_jW0 (P := KK Z sh_C RX10 cX10_line 4 (some .int) (kk_R 5) (kk_Qi Z sh_C Q) 54 [] [] σ) h ?_ ?_
          · intro h
            refine kk_iconst ic_m1 e_X10_line_54 ?_
            exact kk_iret e_X10_line_55 h
          · intro J_4 hJ_4 h
            refine kk_icmp_ge e_X10_line_38 (fun c_10 => ?_) (fun c_10 => ?_)
            · replace h := h.1 c_10
              exact kk_sub [] rfl (hJ_4 h)
            · replace h := h.2 c_10
              refine kk_aload_n 0 rfl e_X10_line_41 ?_
              refine kk_getr e_X10_line_42 fl_X10_10 rfl rfl ?_
              refine kk_iload_n 1 rfl e_X10_line_45 ?_
              refine kk_iload_n 2 rfl e_X10_line_46 ?_
              refine kk_callVip (As := [.int v1, .int v2]) (rest := []) e_X10_line_47 ml_X10_116 ⟨_, _, _, _, rfl, rfl⟩ rfl (kk_fitR (by decide) (by decide)) (Nat.le_of_ble_eq_true rfl) rfl (s_X6_lineBetween Z v1 v2 σ _ h) (fun r_5 h => ?_)
              refine kk_iconst ic_m1 e_X10_line_50 ?_
              refine kk_icmp_eq e_X10_line_51 (fun c_9 => ?_) (fun c_9 => ?_)
              · replace h := h.1 c_9
                refine kk_aload_n 0 rfl e_X10_line_56 ?_
                refine kk_getr e_X10_line_57 fl_X10_10 rfl rfl ?_
                refine kk_geti e_X10_line_60 fl_X10_112 rfl rfl ?_
                refine kk_istore_n (lv' := [(3, .int (σ.1 1 6)), (0, .ref (Z.2.1 0)), (1, .int v1), (2, .int v2)]) e_X10_line_63 rfl (by decide) rfl ?_
                refine kk_aload_n 1 rfl e_X10_line_64 ?_
                refine kk_getr e_X10_line_65 fl_X10_10 rfl rfl ?_
                refine kk_iload_n 2 rfl e_X10_line_68 ?_
                refine kk_iload_n 3 rfl e_X10_line_69 ?_
                refine kk_callVv (As := [.int v1, .int v2]) (rest := []) e_X10_line_70 ml_X10_120 ⟨_, _, _, _, rfl, rfl⟩ rfl (kk_fitR (by decide) (by decide)) (Nat.le_of_ble_eq_true rfl) rfl (s_X6_add Z v1 v2 σ _ h) (fun σ_6 h => ?_)
                refine kk_aload_n 1 rfl e_X10_line_73 ?_
                refine kk_getr e_X10_line_74 fl_X10_89 rfl rfl ?_
                refine kk_iload_n 0 rfl e_X10_line_77 ?_
                refine kk_sipush sp_511 e_X10_line_78 ?_
                refine kk_iast e_X10_line_81 rfl h.1 ?_
                replace h := h.2
                refine kk_tops (fun σ_7 eσ_7 => ?_)
                replace h := h σ_7 eσ_7
                refine kk_aload_n 1 rfl e_X10_line_82 ?_
                refine kk_getr e_X10_line_83 fl_X10_60 rfl rfl ?_
                refine kk_callVv (As := []) (rest := []) e_X10_line_86 ml_X10_105 ⟨_, _, _, _, rfl, rfl⟩ rfl (kk_fitR (by decide) (by decide)) (Nat.le_of_ble_eq_true rfl) rfl (s_X7_forget Z σ_7 _ h) (fun σ_8 h => ?_)
                refine kk_iload_n 0 rfl e_X10_line_89 ?_
                exact kk_iret e_X10_line_90 h
              · replace h := h.2 c_9
                exact kk_sub [] rfl (hJ_4 h)
        · replace h := h.2 c_11
          exact kk_sub [] rfl (hJ_2 h)
