theorem e_X10_list_0 : kk_d cX10_list 0 (.aload_n 0) 1 1 := ⟨by decide +kernel, rfl⟩
theorem e_X10_list_1 : kk_d cX10_list 1 (.getfield 10) 3 4 := ⟨by decide +kernel, rfl⟩
theorem e_X10_list_4 : kk_d cX10_list 4 (.iload_n 1) 1 5 := ⟨by decide +kernel, rfl⟩
theorem e_X10_list_5 : kk_d cX10_list 5 (.invokevirtual 124) 3 8 := ⟨by decide +kernel, rfl⟩
theorem e_X10_list_8 : kk_dj cX10_list 8 (.ifCond .eq 14) 3 (14) 11 22 := ⟨by decide +kernel, rfl, by decide⟩
theorem e_X10_list_22 : kk_d cX10_list 22 (.iconst (-1)) 1 23 := ⟨by decide +kernel, rfl⟩
theorem e_X10_list_23 : kk_d cX10_list 23 .ireturn 1 24 := ⟨by decide +kernel, rfl⟩
theorem e_X10_list_11 : kk_d cX10_list 11 (.iload_n 2) 1 12 := ⟨by decide +kernel, rfl⟩
theorem e_X10_list_12 : kk_dj cX10_list 12 (.ifCond .lt 10) 3 (10) 15 22 := ⟨by decide +kernel, rfl, by decide⟩
theorem e_X10_list_15 : kk_d cX10_list 15 (.iload_n 2) 1 16 := ⟨by decide +kernel, rfl⟩
theorem e_X10_list_16 : kk_d cX10_list 16 (.sipush 511) 3 19 := ⟨by decide +kernel, rfl⟩
theorem e_X10_list_19 : kk_dj cX10_list 19 (.if_icmp .le 5) 3 (5) 22 24 := ⟨by decide +kernel, rfl, by decide⟩
theorem e_X10_list_24 : kk_d cX10_list 24 (.aload_n 0) 1 25 := ⟨by decide +kernel, rfl⟩
theorem e_X10_list_25 : kk_d cX10_list 25 (.getfield 89) 3 28 := ⟨by decide +kernel, rfl⟩
theorem e_X10_list_28 : kk_d cX10_list 28 (.iload_n 1) 1 29 := ⟨by decide +kernel, rfl⟩
theorem e_X10_list_29 : kk_d cX10_list 29 .iaload 1 30 := ⟨by decide +kernel, rfl⟩
theorem e_X10_list_30 : kk_d cX10_list 30 (.istore_n 3) 1 31 := ⟨by decide +kernel, rfl⟩
theorem e_X10_list_31 : kk_d cX10_list 31 (.aload_n 0) 1 32 := ⟨by decide +kernel, rfl⟩
theorem e_X10_list_32 : kk_d cX10_list 32 (.getfield 89) 3 35 := ⟨by decide +kernel, rfl⟩
theorem e_X10_list_35 : kk_d cX10_list 35 (.iload_n 1) 1 36 := ⟨by decide +kernel, rfl⟩
theorem e_X10_list_36 : kk_d cX10_list 36 (.iload_n 2) 1 37 := ⟨by decide +kernel, rfl⟩
theorem e_X10_list_37 : kk_d cX10_list 37 .iastore 1 38 := ⟨by decide +kernel, rfl⟩
theorem e_X10_list_38 : kk_d cX10_list 38 (.aload_n 0) 1 39 := ⟨by decide +kernel, rfl⟩
theorem e_X10_list_39 : kk_d cX10_list 39 (.getfield 60) 3 42 := ⟨by decide +kernel, rfl⟩
theorem e_X10_list_42 : kk_d cX10_list 42 (.invokevirtual 278) 3 45 := ⟨by decide +kernel, rfl⟩
theorem e_X10_list_45 : kk_d cX10_list 45 (.iload_n 3) 1 46 := ⟨by decide +kernel, rfl⟩
theorem e_X10_list_46 : kk_d cX10_list 46 .ireturn 1 47 := ⟨by decide +kernel, rfl⟩
set_option maxRecDepth 4000 in
theorem s_X10_list (Z : kk_Z) (v1 : Int32) (v2 : Int32) (σ : kk_St) (Q : Int32 → kk_St → Prop) (h : f_X10_list v1 v2 σ Q) : kk_M Z sh_C yX10_list cX10_list 4 (some .int) (kk_R 3) [.ref (Z.2.1 0), .int v1, .int v2] σ (kk_Qi Z sh_C Q) := by
  unfold f_X10_list at h
  refine kk_met (own := RX10) (by decide) rfl (Nat.le_of_ble_eq_true rfl) rfl ?_
  refine kk_aload_n 0 rfl e_X10_list_0 ?_
  refine kk_getr e_X10_list_1 fl_X10_10 rfl rfl ?_
  refine kk_iload_n 1 rfl e_X10_list_4 ?_
  refine kk_callVip (As := [.int v1]) (rest := []) e_X10_list_5 ml_X10_124 ⟨_, _, _, _, rfl, rfl⟩ rfl (kk_fitR (by decide) (by decide)) (Nat.le_of_ble_eq_true rfl) rfl (s_X6_isLine Z v1 σ _ h) (fun r_1 h => ?_)
  refine kk_jW0 (P := KK Z sh_C RX10 cX10_list 4 (some .int) (kk_R 3) (kk_Qi Z sh_C Q) 22 [] [] σ) h ?_ ?_
  · intro h
    refine kk_iconst ic_m1 e_X10_list_22 ?_
    exact kk_iret e_X10_list_23 h
  · intro J_2 hJ_2 h
    refine kk_if_eq e_X10_list_8 (fun c_7 => ?_) (fun c_7 => ?_)
    · replace h := h.1 c_7
      exact kk_sub [] rfl (hJ_2 h)
    · replace h := h.2 c_7
      refine kk_iload_n 2 rfl e_X10_list_11 ?_
      refine kk_if_lt e_X10_list_12 (fun c_6 => ?_) (fun c_6 => ?_)
      · replace h := h.1 c_6
        exact kk_sub [] rfl (hJ_2 h)
      · replace h := h.2 c_6
        refine kk_iload_n 2 rfl e_X10_list_15 ?_
        refine kk_sipush sp_511 e_X10_list_16 ?_
        refine kk_icmp_le e_X10_list_19 (fun c_5 => ?_) (fun c_5 => ?_)
        · replace h := h.1 c_5
          refine kk_aload_n 0 rfl e_X10_list_24 ?_
          refine kk_getr e_X10_list_25 fl_X10_89 rfl rfl ?_
          refine kk_iload_n 1 rfl e_X10_list_28 ?_
          refine kk_iald e_X10_list_29 rfl h.1 ?_
          replace h := h.2
          refine kk_istore_n (lv' := [(3, .int (kk_rd σ 32 v1)), (0, .ref (Z.2.1 0)), (1, .int v1), (2, .int v2)]) e_X10_list_30 rfl (by decide) rfl ?_
          refine kk_aload_n 1 rfl e_X10_list_31 ?_
          refine kk_getr e_X10_list_32 fl_X10_89 rfl rfl ?_
          refine kk_iload_n 2 rfl e_X10_list_35 ?_
          refine kk_iload_n 3 rfl e_X10_list_36 ?_
          refine kk_iast e_X10_list_37 rfl h.1 ?_
          replace h := h.2
          refine kk_tops (fun σ_3 eσ_3 => ?_)
          replace h := h σ_3 eσ_3
          refine kk_aload_n 1 rfl e_X10_list_38 ?_
          refine kk_getr e_X10_list_39 fl_X10_60 rfl rfl ?_
          refine kk_callVv (As := []) (rest := []) e_X10_list_42 ml_X10_278 ⟨_, _, _, _, rfl, rfl⟩ rfl (kk_fitR (by decide) (by decide)) (Nat.le_of_ble_eq_true rfl) rfl (s_X7_forgetAnswer Z σ_3 _ h) (fun σ_4 h => ?_)
          refine kk_iload_n 0 rfl e_X10_list_45 ?_
          exact kk_iret e_X10_list_46 h
        · replace h := h.2 c_5
          exact kk_sub [] rfl (hJ_2 h)
theorem e_X7_openListed_0 : kk_d cX7_openListed 0 (.iconst 0) 1 1 := ⟨by decide +kernel, rfl⟩
theorem e_X7_openListed_1 : kk_d cX7_openListed 1 (.istore_n 2) 1 2 := ⟨by decide +kernel, rfl⟩
theorem e_X7_openListed_2 : kk_d cX7_openListed 2 (.iload_n 2) 1 3 := ⟨by decide +kernel, rfl⟩
theorem e_X7_openListed_3 : kk_d cX7_openListed 3 (.bipush 9) 2 5 := ⟨by decide +kernel, rfl⟩
theorem e_X7_openListed_5 : kk_dj cX7_openListed 5 (.if_icmp .ge 53) 3 (53) 8 58 := ⟨by decide +kernel, rfl, by decide⟩
theorem e_X7_openListed_58 : kk_d cX7_openListed 58 .return_ 1 59 := ⟨by decide +kernel, rfl⟩
theorem e_X7_openListed_8 : kk_d cX7_openListed 8 (.aload_n 0) 1 9 := ⟨by decide +kernel, rfl⟩
theorem e_X7_openListed_9 : kk_d cX7_openListed 9 (.getfield 9) 3 12 := ⟨by decide +kernel, rfl⟩
theorem e_X7_openListed_12 : kk_d cX7_openListed 12 (.iload_n 2) 1 13 := ⟨by decide +kernel, rfl⟩
theorem e_X7_openListed_13 : kk_d cX7_openListed 13 (.iconst 0) 1 14 := ⟨by decide +kernel, rfl⟩
theorem e_X7_openListed_14 : kk_d cX7_openListed 14 .iastore 1 15 := ⟨by decide +kernel, rfl⟩
theorem e_X7_openListed_15 : kk_d cX7_openListed 15 (.iconst 0) 1 16 := ⟨by decide +kernel, rfl⟩
theorem e_X7_openListed_16 : kk_d cX7_openListed 16 (.istore_n 3) 1 17 := ⟨by decide +kernel, rfl⟩
theorem e_X7_openListed_17 : kk_d cX7_openListed 17 (.iload_n 3) 1 18 := ⟨by decide +kernel, rfl⟩
theorem e_X7_openListed_18 : kk_d cX7_openListed 18 (.aload_n 0) 1 19 := ⟨by decide +kernel, rfl⟩
theorem e_X7_openListed_19 : kk_d cX7_openListed 19 (.getfield 35) 3 22 := ⟨by decide +kernel, rfl⟩
theorem e_X7_openListed_22 : kk_d cX7_openListed 22 (.getfield 55) 3 25 := ⟨by decide +kernel, rfl⟩
theorem e_X7_openListed_25 : kk_dj cX7_openListed 25 (.if_icmp .ge 27) 3 (27) 28 52 := ⟨by decide +kernel, rfl, by decide⟩
theorem e_X7_openListed_52 : kk_d cX7_openListed 52 (.iinc 2 1) 3 55 := ⟨by decide +kernel, rfl⟩
theorem e_X7_openListed_55 : kk_dj cX7_openListed 55 (.goto (-53)) 3 (-53) 58 2 := ⟨by decide +kernel, rfl, by decide⟩
theorem e_X7_openListed_28 : kk_d cX7_openListed 28 (.aload_n 0) 1 29 := ⟨by decide +kernel, rfl⟩
theorem e_X7_openListed_29 : kk_d cX7_openListed 29 (.getfield 9) 3 32 := ⟨by decide +kernel, rfl⟩
theorem e_X7_openListed_32 : kk_d cX7_openListed 32 (.iload_n 2) 1 33 := ⟨by decide +kernel, rfl⟩
theorem e_X7_openListed_33 : kk_d cX7_openListed 33 .dup2 1 34 := ⟨by decide +kernel, rfl⟩
theorem e_X7_openListed_34 : kk_d cX7_openListed 34 .iaload 1 35 := ⟨by decide +kernel, rfl⟩
theorem e_X7_openListed_35 : kk_d cX7_openListed 35 (.aload_n 1) 1 36 := ⟨by decide +kernel, rfl⟩
theorem e_X7_openListed_36 : kk_d cX7_openListed 36 (.iload_n 3) 1 37 := ⟨by decide +kernel, rfl⟩
theorem e_X7_openListed_37 : kk_d cX7_openListed 37 .iaload 1 38 := ⟨by decide +kernel, rfl⟩
theorem e_X7_openListed_38 : kk_d cX7_openListed 38 (.iload_n 2) 1 39 := ⟨by decide +kernel, rfl⟩
theorem e_X7_openListed_39 : kk_d cX7_openListed 39 .ishr 1 40 := ⟨by decide +kernel, rfl⟩
theorem e_X7_openListed_40 : kk_d cX7_openListed 40 (.iconst 1) 1 41 := ⟨by decide +kernel, rfl⟩
theorem e_X7_openListed_41 : kk_d cX7_openListed 41 .iand 1 42 := ⟨by decide +kernel, rfl⟩
theorem e_X7_openListed_42 : kk_d cX7_openListed 42 (.iload_n 3) 1 43 := ⟨by decide +kernel, rfl⟩
theorem e_X7_openListed_43 : kk_d cX7_openListed 43 .ishl 1 44 := ⟨by decide +kernel, rfl⟩
theorem e_X7_openListed_44 : kk_d cX7_openListed 44 .ior 1 45 := ⟨by decide +kernel, rfl⟩
theorem e_X7_openListed_45 : kk_d cX7_openListed 45 .iastore 1 46 := ⟨by decide +kernel, rfl⟩
theorem e_X7_openListed_46 : kk_d cX7_openListed 46 (.iinc 3 1) 3 49 := ⟨by decide +kernel, rfl⟩
theorem e_X7_openListed_49 : kk_dj cX7_openListed 49 (.goto (-32)) 3 (-32) 52 17 := ⟨by decide +kernel, rfl, by decide⟩
set_option maxRecDepth 4000 in
theorem s_X7_openListed (Z : kk_Z) (a1 : Nat) (n1 : Nat) (σ : kk_St) (Q : kk_St → Prop) (ha1 : sh_C[a1]? = some (.inl (false, n1))) (h : f_X7_openListed a1 n1 σ Q) : kk_M Z sh_C yX7_openListed cX7_openListed 4 none (kk_R 2) [.ref (Z.2.1 7), .ref (Z.2.1 a1)] σ (kk_Qv Z sh_C Q) := by
  unfold f_X7_openListed at h
  refine kk_met (own := RX7) (by decide) rfl (Nat.le_of_ble_eq_true rfl) rfl ?_
  refine kk_iconst ic_0 e_X7_openListed_0 ?_
  refine kk_istore_n (lv' := [(2, .int (0 : Int32)), (0, .ref (Z.2.1 7)), (1, .ref (Z.2.1 a1))]) e_X7_openListed_1 rfl (by decide) rfl ?_
  refine kk_sub [1, 2, 0] rfl ?_
  refine kk_lpW2 (P := fun (v2_1 : Int32) (σ_2 : kk_St) => KK Z sh_C RX7 cX7_openListed 4 none (kk_R 2) (kk_Qv Z sh_C Q) 2 [(0, .ref (Z.2.1 7)), (1, .ref (Z.2.1 a1)), (2, .int v2_1)] [] σ_2) ?_ h
  intro rec_3 hrec_3 v2_1 σ_2 h
  refine kk_iload_n 2 rfl e_X7_openListed_2 ?_
  refine kk_bipush bp_9 e_X7_openListed_3 ?_
  refine kk_icmp_ge e_X7_openListed_5 (fun c_10 => ?_) (fun c_10 => ?_)
  · replace h := h.1 c_10
    exact kk_vret e_X7_openListed_58 h
  · replace h := h.2 c_10
    refine kk_aload_n 0 rfl e_X7_openListed_8 ?_
    refine kk_getr e_X7_openListed_9 fl_X7_9 rfl rfl ?_
    refine kk_iload_n 2 rfl e_X7_openListed_12 ?_
    refine kk_iconst ic_0 e_X7_openListed_13 ?_
    refine kk_iast e_X7_openListed_14 rfl h.1 ?_
    replace h := h.2
    refine kk_tops (fun σ_4 eσ_4 => ?_)
    replace h := h σ_4 eσ_4
    refine kk_iconst ic_0 e_X7_openListed_15 ?_
    refine kk_istore_n (lv' := [(3, .int (0 : Int32)), (0, .ref (Z.2.1 7)), (1, .ref (Z.2.1 a1)), (2, .int v2_1)]) e_X7_openListed_16 rfl (by decide) rfl ?_
    refine kk_sub [1, 2, 3, 0] rfl ?_
    refine kk_lpW2 (P := fun (v3_5 : Int32) (σ_6 : kk_St) => KK Z sh_C RX7 cX7_openListed 4 none (kk_R 2) (kk_Qv Z sh_C Q) 17 [(0, .ref (Z.2.1 7)), (1, .ref (Z.2.1 a1)), (2, .int v2_1), (3, .int v3_5)] [] σ_6) ?_ h
    intro rec_7 hrec_7 v3_5 σ_6 h
    refine kk_iload_n 3 rfl e_X7_openListed_17 ?_
    refine kk_aload_n 0 rfl e_X7_openListed_18 ?_
    refine kk_getr e_X7_openListed_19 fl_X7_35 rfl rfl ?_
    refine kk_geti e_X7_openListed_22 fl_X7_55 rfl rfl ?_
    refine kk_icmp_ge e_X7_openListed_25 (fun c_9 => ?_) (fun c_9 => ?_)
    · replace h := h.1 c_9
      refine kk_iinc (lv' := [(2, .int (v2_1 + (1 : Int32))), (0, .ref (Z.2.1 7)), (1, .ref (Z.2.1 a1)), (3, .int v3_5)]) e_X7_openListed_52 (j := 2) rfl (ii_1 v2_1) (by decide) rfl ?_
      refine kk_goto e_X7_openListed_55 ?_
      exact kk_sub [1, 2, 0] rfl (hrec_3 (v2_1 + (1 : Int32)) σ_6 h)
    · replace h := h.2 c_9
      refine kk_aload_n 0 rfl e_X7_openListed_28 ?_
      refine kk_getr e_X7_openListed_29 fl_X7_9 rfl rfl ?_
      refine kk_iload_n 2 rfl e_X7_openListed_32 ?_
      refine kk_dup2 rfl rfl e_X7_openListed_33 ?_
      refine kk_iald e_X7_openListed_34 rfl h.1 ?_
      replace h := h.2
      refine kk_aload_n 1 rfl e_X7_openListed_35 ?_
      refine kk_iload_n 3 rfl e_X7_openListed_36 ?_
      refine kk_iald e_X7_openListed_37 ha1 h.1 ?_
      replace h := h.2
      refine kk_iload_n 2 rfl e_X7_openListed_38 ?_
      refine kk_ishr e_X7_openListed_39 ?_
      refine kk_iconst ic_1 e_X7_openListed_40 ?_
      refine kk_iand e_X7_openListed_41 ?_
      refine kk_iload_n 3 rfl e_X7_openListed_42 ?_
      refine kk_ishl e_X7_openListed_43 ?_
      refine kk_ior e_X7_openListed_44 ?_
      refine kk_iast e_X7_openListed_45 rfl h.1 ?_
      replace h := h.2
      refine kk_tops (fun σ_8 eσ_8 => ?_)
      replace h := h σ_8 eσ_8
      refine kk_iinc (lv' := [(3, .int (v3_5 + (1 : Int32))), (0, .ref (Z.2.1 7)), (1, .ref (Z.2.1 a1)), (2, .int v2_1)]) e_X7_openListed_46 (j := 3) rfl (ii_1 v3_5) (by decide) rfl ?_
      refine kk_goto e_X7_openListed_49 ?_
      exact kk_sub [1, 2, 3, 0] rfl (hrec_7 (v3_5 + (1 : Int32)) σ_8 h)
theorem e_X7_findListed_0 : kk_d cX7_findListed 0 (.aload_n 0) 1 1 := ⟨by decide +kernel, rfl⟩
theorem e_X7_findListed_1 : kk_d cX7_findListed 1 (.getfield 21) 3 4 := ⟨by decide +kernel, rfl⟩
theorem e_X7_findListed_4 : kk_d cX7_findListed 4 (.bipush 10) 2 6 := ⟨by decide +kernel, rfl⟩
theorem e_X7_findListed_6 : kk_dj cX7_findListed 6 (.if_icmp .eq 22) 3 (22) 9 28 := ⟨by decide +kernel, rfl, by decide⟩
theorem e_X7_findListed_28 : kk_d cX7_findListed 28 (.aload_n 0) 1 29 := ⟨by decide +kernel, rfl⟩
theorem e_X7_findListed_29 : kk_d cX7_findListed 29 (.getfield 25) 3 32 := ⟨by decide +kernel, rfl⟩
theorem e_X7_findListed_32 : kk_d cX7_findListed 32 .ireturn 1 33 := ⟨by decide +kernel, rfl⟩
theorem e_X7_findListed_9 : kk_d cX7_findListed 9 (.aload_n 0) 1 10 := ⟨by decide +kernel, rfl⟩
theorem e_X7_findListed_10 : kk_d cX7_findListed 10 (.bipush 10) 2 12 := ⟨by decide +kernel, rfl⟩
theorem e_X7_findListed_12 : kk_d cX7_findListed 12 (.putfield 21) 3 15 := ⟨by decide +kernel, rfl⟩
theorem e_X7_findListed_15 : kk_d cX7_findListed 15 (.aload_n 0) 1 16 := ⟨by decide +kernel, rfl⟩
theorem e_X7_findListed_16 : kk_d cX7_findListed 16 (.aload_n 1) 1 17 := ⟨by decide +kernel, rfl⟩
theorem e_X7_findListed_17 : kk_d cX7_findListed 17 (.invokevirtual 80) 3 20 := ⟨by decide +kernel, rfl⟩
theorem e_X7_findListed_20 : kk_d cX7_findListed 20 (.aload_n 0) 1 21 := ⟨by decide +kernel, rfl⟩
theorem e_X7_findListed_21 : kk_d cX7_findListed 21 (.aload_n 0) 1 22 := ⟨by decide +kernel, rfl⟩
theorem e_X7_findListed_22 : kk_d cX7_findListed 22 (.invokevirtual 76) 3 25 := ⟨by decide +kernel, rfl⟩
theorem e_X7_findListed_25 : kk_d cX7_findListed 25 (.putfield 25) 3 28 := ⟨by decide +kernel, rfl⟩
set_option maxRecDepth 4000 in
theorem s_X7_findListed (Z : kk_Z) (a1 : Nat) (n1 : Nat) (σ : kk_St) (Q : Int32 → kk_St → Prop) (ha1 : sh_C[a1]? = some (.inl (false, n1))) (h : f_X7_findListed a1 n1 σ Q) : kk_M Z sh_C yX7_findListed cX7_findListed 2 (some .boolean) (kk_R 69) [.ref (Z.2.1 7), .ref (Z.2.1 a1)] σ (kk_Qi Z sh_C Q) := by
  unfold f_X7_findListed at h
  refine kk_met (own := RX7) (by decide) rfl (Nat.le_of_ble_eq_true rfl) rfl ?_
  refine kk_aload_n 0 rfl e_X7_findListed_0 ?_
  refine kk_geti e_X7_findListed_1 fl_X7_21 rfl rfl ?_
  refine kk_bipush bp_10 e_X7_findListed_4 ?_
  refine kk_jW1 (P := fun (σ_1 : kk_St) => KK Z sh_C RX7 cX7_findListed 2 (some .boolean) (kk_R 69) (kk_Qi Z sh_C Q) 28 [(0, .ref (Z.2.1 7))] [] σ_1) h ?_ ?_
  · intro σ_1 h
    refine kk_aload_n 0 rfl e_X7_findListed_28 ?_
    refine kk_geti e_X7_findListed_29 fl_X7_25 rfl rfl ?_
    exact kk_zret e_X7_findListed_32 h.1 h.2
  · intro J_2 hJ_2 h
    refine kk_icmp_eq e_X7_findListed_6 (fun c_8 => ?_) (fun c_8 => ?_)
    · replace h := h.1 c_8
      exact kk_sub [0] rfl (hJ_2 σ h)
    · replace h := h.2 c_8
      refine kk_aload_n 0 rfl e_X7_findListed_9 ?_
      refine kk_bipush bp_10 e_X7_findListed_10 ?_
      refine kk_puti e_X7_findListed_12 fl_X7_21 fn_X7_4 rfl rfl ?_
      refine kk_tops (fun σ_3 eσ_3 => ?_)
      replace h := h σ_3 eσ_3
      refine kk_aload_n 0 rfl e_X7_findListed_15 ?_
      refine kk_aload_n 1 rfl e_X7_findListed_16 ?_
      refine kk_callVv (As := [.ref (Z.2.1 a1)]) (rest := []) e_X7_findListed_17 ml_X7_80 ⟨_, _, _, _, rfl, rfl⟩ rfl (kk_fitR (by decide) (by decide)) (Nat.le_of_ble_eq_true rfl) rfl (s_X7_openListed Z a1 n1 σ_3 _ ha1 h) (fun σ_4 h => ?_)
      refine kk_aload_n 0 rfl e_X7_findListed_20 ?_
      refine kk_aload_n 0 rfl e_X7_findListed_21 ?_
      refine kk_callVi (As := []) (rest := [.ref (Z.2.1 7)]) e_X7_findListed_22 ml_X7_76 ⟨_, _, _, _, rfl, rfl⟩ rfl (kk_fitR (by decide) (by decide)) (Nat.le_of_ble_eq_true rfl) rfl (s_X7_findLeast Z σ_4 _ h) (fun r_5 σ_6 h => ?_)
      refine kk_putz e_X7_findListed_25 fl_X7_25 fn_X7_5 h.1 rfl rfl ?_
      replace h := h.2
      refine kk_tops (fun σ_7 eσ_7 => ?_)
      replace h := h σ_7 eσ_7
      exact kk_sub [0] rfl (hJ_2 σ_7 h)
theorem e_X10_listed_0 : kk_d cX10_listed 0 (.aload_n 0) 1 1 := ⟨by decide +kernel, rfl⟩
theorem e_X10_listed_1 : kk_d cX10_listed 1 (.getfield 10) 3 4 := ⟨by decide +kernel, rfl⟩
theorem e_X10_listed_4 : kk_d cX10_listed 4 (.iload_n 1) 1 5 := ⟨by decide +kernel, rfl⟩
theorem e_X10_listed_5 : kk_d cX10_listed 5 (.invokevirtual 124) 3 8 := ⟨by decide +kernel, rfl⟩
theorem e_X10_listed_8 : kk_dj cX10_listed 8 (.ifCond .ne 5) 3 (5) 11 13 := ⟨by decide +kernel, rfl, by decide⟩
theorem e_X10_listed_13 : kk_d cX10_listed 13 (.aload_n 0) 1 14 := ⟨by decide +kernel, rfl⟩
theorem e_X10_listed_14 : kk_d cX10_listed 14 (.getfield 10) 3 17 := ⟨by decide +kernel, rfl⟩
theorem e_X10_listed_17 : kk_d cX10_listed 17 (.getfield 112) 3 20 := ⟨by decide +kernel, rfl⟩
theorem e_X10_listed_20 : kk_d cX10_listed 20 (.bipush 9) 2 22 := ⟨by decide +kernel, rfl⟩
theorem e_X10_listed_22 : kk_dj cX10_listed 22 (.if_icmp .le 6) 3 (6) 25 28 := ⟨by decide +kernel, rfl, by decide⟩
theorem e_X10_listed_28 : kk_d cX10_listed 28 (.aload_n 0) 1 29 := ⟨by decide +kernel, rfl⟩
theorem e_X10_listed_29 : kk_d cX10_listed 29 (.getfield 60) 3 32 := ⟨by decide +kernel, rfl⟩
theorem e_X10_listed_32 : kk_d cX10_listed 32 (.aload_n 0) 1 33 := ⟨by decide +kernel, rfl⟩
theorem e_X10_listed_33 : kk_d cX10_listed 33 (.getfield 89) 3 36 := ⟨by decide +kernel, rfl⟩
theorem e_X10_listed_36 : kk_d cX10_listed 36 (.invokevirtual 281) 3 39 := ⟨by decide +kernel, rfl⟩
theorem e_X10_listed_39 : kk_dj cX10_listed 39 (.ifCond .eq 15) 3 (15) 42 54 := ⟨by decide +kernel, rfl, by decide⟩
theorem e_X10_listed_56 : kk_d cX10_listed 56 .ireturn 1 57 := ⟨by decide +kernel, rfl⟩
theorem e_X10_listed_54 : kk_d cX10_listed 54 (.bipush (-2)) 2 56 := ⟨by decide +kernel, rfl⟩
theorem e_X10_listed_42 : kk_d cX10_listed 42 (.aload_n 0) 1 43 := ⟨by decide +kernel, rfl⟩
theorem e_X10_listed_43 : kk_d cX10_listed 43 (.getfield 60) 3 46 := ⟨by decide +kernel, rfl⟩
theorem e_X10_listed_46 : kk_d cX10_listed 46 (.getfield 182) 3 49 := ⟨by decide +kernel, rfl⟩
theorem e_X10_listed_49 : kk_d cX10_listed 49 (.iload_n 1) 1 50 := ⟨by decide +kernel, rfl⟩
theorem e_X10_listed_50 : kk_d cX10_listed 50 .iaload 1 51 := ⟨by decide +kernel, rfl⟩
theorem e_X10_listed_51 : kk_dj cX10_listed 51 (.goto 5) 3 (5) 54 56 := ⟨by decide +kernel, rfl, by decide⟩
theorem e_X10_listed_25 : kk_d cX10_listed 25 (.bipush (-3)) 2 27 := ⟨by decide +kernel, rfl⟩
theorem e_X10_listed_27 : kk_d cX10_listed 27 .ireturn 1 28 := ⟨by decide +kernel, rfl⟩
theorem e_X10_listed_11 : kk_d cX10_listed 11 (.iconst (-1)) 1 12 := ⟨by decide +kernel, rfl⟩
theorem e_X10_listed_12 : kk_d cX10_listed 12 .ireturn 1 13 := ⟨by decide +kernel, rfl⟩
set_option maxRecDepth 4000 in
theorem s_X10_listed (Z : kk_Z) (v1 : Int32) (σ : kk_St) (Q : Int32 → kk_St → Prop) (h : f_X10_listed v1 σ Q) : kk_M Z sh_C yX10_listed cX10_listed 2 (some .int) (kk_R 70) [.ref (Z.2.1 0), .int v1] σ (kk_Qi Z sh_C Q) := by
  unfold f_X10_listed at h
  refine kk_met (own := RX10) (by decide) rfl (Nat.le_of_ble_eq_true rfl) rfl ?_
  refine kk_aload_n 0 rfl e_X10_listed_0 ?_
  refine kk_getr e_X10_listed_1 fl_X10_10 rfl rfl ?_
  refine kk_iload_n 1 rfl e_X10_listed_4 ?_
  refine kk_callVip (As := [.int v1]) (rest := []) e_X10_listed_5 ml_X10_124 ⟨_, _, _, _, rfl, rfl⟩ rfl (kk_fitR (by decide) (by decide)) (Nat.le_of_ble_eq_true rfl) rfl (s_X6_isLine Z v1 σ _ h) (fun r_1 h => ?_)
  refine kk_if_ne e_X10_listed_8 (fun c_8 => ?_) (fun c_8 => ?_)
  · replace h := h.1 c_8
    refine kk_aload_n 0 rfl e_X10_listed_13 ?_
    refine kk_getr e_X10_listed_14 fl_X10_10 rfl rfl ?_
    refine kk_geti e_X10_listed_17 fl_X10_112 rfl rfl ?_
    refine kk_bipush bp_9 e_X10_listed_20 ?_
    refine kk_icmp_le e_X10_listed_22 (fun c_7 => ?_) (fun c_7 => ?_)
    · replace h := h.1 c_7
      refine kk_aload_n 0 rfl e_X10_listed_28 ?_
      refine kk_getr e_X10_listed_29 fl_X10_60 rfl rfl ?_
      refine kk_aload_n 0 rfl e_X10_listed_32 ?_
      refine kk_getr e_X10_listed_33 fl_X10_89 rfl rfl ?_
      refine kk_callVi (As := [.ref (Z.2.1 32)]) (rest := []) e_X10_listed_36 ml_X10_281 ⟨_, _, _, _, rfl, rfl⟩ rfl (kk_fitR (by decide) (by decide)) (Nat.le_of_ble_eq_true rfl) rfl (s_X7_findListed Z 32 20 σ _ rfl h) (fun r_2 σ_3 h => ?_)
      refine kk_jW1 (P := fun (t_4 : Int32) => KK Z sh_C RX10 cX10_listed 2 (some .int) (kk_R 70) (kk_Qi Z sh_C Q) 56 [] [.int t_4] σ_3) h ?_ ?_
      · intro t_4 h
        exact kk_iret e_X10_listed_56 h
      · intro J_5 hJ_5 h
        refine kk_if_eq e_X10_listed_39 (fun c_6 => ?_) (fun c_6 => ?_)
        · replace h := h.1 c_6
          refine kk_bipush bp_m2 e_X10_listed_54 ?_
          exact kk_sub [] rfl (hJ_5 (-2 : Int32) h)
        · replace h := h.2 c_6
          refine kk_aload_n 0 rfl e_X10_listed_42 ?_
          refine kk_getr e_X10_listed_43 fl_X10_60 rfl rfl ?_
          refine kk_getr e_X10_listed_46 fl_X10_182 rfl rfl ?_
          refine kk_iload_n 1 rfl e_X10_listed_49 ?_
          refine kk_iald e_X10_listed_50 rfl h.1 ?_
          replace h := h.2
          refine kk_goto e_X10_listed_51 ?_
          exact kk_sub [] rfl (hJ_5 (kk_rd σ_3 22 v1) h)
    · replace h := h.2 c_7
      refine kk_bipush bp_m3 e_X10_listed_25 ?_
      exact kk_iret e_X10_listed_27 h
  · replace h := h.2 c_8
    refine kk_iconst ic_m1 e_X10_listed_11 ?_
    exact kk_iret e_X10_listed_12 h
theorem e_X2_longestChain_0 : kk_d cX2_longestChain 0 (.aload_n 0) 1 1 := ⟨by decide +kernel, rfl⟩
theorem e_X2_longestChain_1 : kk_d cX2_longestChain 1 (.getfield 15) 3 4 := ⟨by decide +kernel, rfl⟩
theorem e_X2_longestChain_4 : kk_d cX2_longestChain 4 (.getfield 19) 3 7 := ⟨by decide +kernel, rfl⟩
theorem e_X2_longestChain_7 : kk_d cX2_longestChain 7 (.iload_n 1) 1 8 := ⟨by decide +kernel, rfl⟩
theorem e_X2_longestChain_8 : kk_d cX2_longestChain 8 .iaload 1 9 := ⟨by decide +kernel, rfl⟩
theorem e_X2_longestChain_9 : kk_d cX2_longestChain 9 (.aload_n 0) 1 10 := ⟨by decide +kernel, rfl⟩
theorem e_X2_longestChain_10 : kk_d cX2_longestChain 10 (.getfield 15) 3 13 := ⟨by decide +kernel, rfl⟩
theorem e_X2_longestChain_13 : kk_d cX2_longestChain 13 (.getfield 19) 3 16 := ⟨by decide +kernel, rfl⟩
theorem e_X2_longestChain_16 : kk_d cX2_longestChain 16 (.iload_n 2) 1 17 := ⟨by decide +kernel, rfl⟩
theorem e_X2_longestChain_17 : kk_d cX2_longestChain 17 .iaload 1 18 := ⟨by decide +kernel, rfl⟩
theorem e_X2_longestChain_18 : kk_d cX2_longestChain 18 .ior 1 19 := ⟨by decide +kernel, rfl⟩
theorem e_X2_longestChain_19 : kk_d cX2_longestChain 19 (.istore_n 3) 1 20 := ⟨by decide +kernel, rfl⟩
theorem e_X2_longestChain_20 : kk_d cX2_longestChain 20 (.iload_n 3) 1 21 := ⟨by decide +kernel, rfl⟩
theorem e_X2_longestChain_21 : kk_d cX2_longestChain 21 (.istore 4) 2 23 := ⟨by decide +kernel, rfl⟩
theorem e_X2_longestChain_23 : kk_d cX2_longestChain 23 (.iconst 0) 1 24 := ⟨by decide +kernel, rfl⟩
theorem e_X2_longestChain_24 : kk_d cX2_longestChain 24 (.istore 5) 2 26 := ⟨by decide +kernel, rfl⟩
theorem e_X2_longestChain_26 : kk_d cX2_longestChain 26 (.iconst 0) 1 27 := ⟨by decide +kernel, rfl⟩
theorem e_X2_longestChain_27 : kk_d cX2_longestChain 27 (.istore 6) 2 29 := ⟨by decide +kernel, rfl⟩
theorem e_X2_longestChain_29 : kk_d cX2_longestChain 29 (.iload 6) 2 31 := ⟨by decide +kernel, rfl⟩
theorem e_X2_longestChain_31 : kk_d cX2_longestChain 31 (.aload_n 0) 1 32 := ⟨by decide +kernel, rfl⟩
theorem e_X2_longestChain_32 : kk_d cX2_longestChain 32 (.getfield 9) 3 35 := ⟨by decide +kernel, rfl⟩
theorem e_X2_longestChain_35 : kk_d cX2_longestChain 35 (.getfield 25) 3 38 := ⟨by decide +kernel, rfl⟩
theorem e_X2_longestChain_38 : kk_dj cX2_longestChain 38 (.if_icmp .ge 59) 3 (59) 41 97 := ⟨by decide +kernel, rfl, by decide⟩
theorem e_X2_longestChain_97 : kk_d cX2_longestChain 97 (.iload 5) 2 99 := ⟨by decide +kernel, rfl⟩
theorem e_X2_longestChain_99 : kk_d cX2_longestChain 99 .ireturn 1 100 := ⟨by decide +kernel, rfl⟩
theorem e_X2_longestChain_41 : kk_d cX2_longestChain 41 (.iload 4) 2 43 := ⟨by decide +kernel, rfl⟩
theorem e_X2_longestChain_43 : kk_d cX2_longestChain 43 (.iload 6) 2 45 := ⟨by decide +kernel, rfl⟩
theorem e_X2_longestChain_45 : kk_d cX2_longestChain 45 .ishr 1 46 := ⟨by decide +kernel, rfl⟩
theorem e_X2_longestChain_46 : kk_d cX2_longestChain 46 (.iconst 1) 1 47 := ⟨by decide +kernel, rfl⟩
theorem e_X2_longestChain_47 : kk_d cX2_longestChain 47 .iand 1 48 := ⟨by decide +kernel, rfl⟩
theorem e_X2_longestChain_48 : kk_dj cX2_longestChain 48 (.ifCond .eq 43) 3 (43) 51 91 := ⟨by decide +kernel, rfl, by decide⟩
theorem e_X2_longestChain_91 : kk_d cX2_longestChain 91 (.iinc 6 1) 3 94 := ⟨by decide +kernel, rfl⟩
theorem e_X2_longestChain_94 : kk_dj cX2_longestChain 94 (.goto (-65)) 3 (-65) 97 29 := ⟨by decide +kernel, rfl, by decide⟩
theorem e_X2_longestChain_51 : kk_d cX2_longestChain 51 (.aload_n 0) 1 52 := ⟨by decide +kernel, rfl⟩
theorem e_X2_longestChain_52 : kk_d cX2_longestChain 52 (.getfield 9) 3 55 := ⟨by decide +kernel, rfl⟩
theorem e_X2_longestChain_55 : kk_d cX2_longestChain 55 (.iconst 1) 1 56 := ⟨by decide +kernel, rfl⟩
theorem e_X2_longestChain_56 : kk_d cX2_longestChain 56 (.iload 6) 2 58 := ⟨by decide +kernel, rfl⟩
theorem e_X2_longestChain_58 : kk_d cX2_longestChain 58 .ishl 1 59 := ⟨by decide +kernel, rfl⟩
theorem e_X2_longestChain_59 : kk_d cX2_longestChain 59 (.iload_n 3) 1 60 := ⟨by decide +kernel, rfl⟩
theorem e_X2_longestChain_60 : kk_d cX2_longestChain 60 (.invokevirtual 31) 3 63 := ⟨by decide +kernel, rfl⟩
theorem e_X2_longestChain_63 : kk_d cX2_longestChain 63 (.istore 7) 2 65 := ⟨by decide +kernel, rfl⟩
theorem e_X2_longestChain_65 : kk_d cX2_longestChain 65 (.iload 4) 2 67 := ⟨by decide +kernel, rfl⟩
theorem e_X2_longestChain_67 : kk_d cX2_longestChain 67 (.iload 7) 2 69 := ⟨by decide +kernel, rfl⟩
theorem e_X2_longestChain_69 : kk_d cX2_longestChain 69 (.iconst (-1)) 1 70 := ⟨by decide +kernel, rfl⟩
theorem e_X2_longestChain_70 : kk_d cX2_longestChain 70 .ixor 1 71 := ⟨by decide +kernel, rfl⟩
theorem e_X2_longestChain_71 : kk_d cX2_longestChain 71 .iand 1 72 := ⟨by decide +kernel, rfl⟩
theorem e_X2_longestChain_72 : kk_d cX2_longestChain 72 (.istore 4) 2 74 := ⟨by decide +kernel, rfl⟩
theorem e_X2_longestChain_74 : kk_d cX2_longestChain 74 (.iload 7) 2 76 := ⟨by decide +kernel, rfl⟩
theorem e_X2_longestChain_76 : kk_d cX2_longestChain 76 (.invokestatic 35) 3 79 := ⟨by decide +kernel, rfl⟩
theorem e_X2_longestChain_79 : kk_d cX2_longestChain 79 (.iload 5) 2 81 := ⟨by decide +kernel, rfl⟩
theorem e_X2_longestChain_81 : kk_d cX2_longestChain 81 (.invokestatic 35) 3 84 := ⟨by decide +kernel, rfl⟩
theorem e_X2_longestChain_84 : kk_dj cX2_longestChain 84 (.if_icmp .le 7) 3 (7) 87 91 := ⟨by decide +kernel, rfl, by decide⟩
theorem e_X2_longestChain_87 : kk_d cX2_longestChain 87 (.iload 7) 2 89 := ⟨by decide +kernel, rfl⟩
theorem e_X2_longestChain_89 : kk_d cX2_longestChain 89 (.istore 5) 2 91 := ⟨by decide +kernel, rfl⟩
set_option maxRecDepth 4000 in
theorem s_X2_longestChain (Z : kk_Z) (v1 : Int32) (v2 : Int32) (σ : kk_St) (Q : Int32 → Prop) (h : f_X2_longestChain v1 v2 σ Q) : kk_M Z sh_C yX2_longestChain cX2_longestChain 8 (some .int) (kk_R 4) [.ref (Z.2.1 5), .int v1, .int v2] σ (kk_Qi Z sh_C (fun r σ' => σ' = σ ∧ Q r)) := by
  unfold f_X2_longestChain at h
  refine kk_met (own := RX2) (by decide) rfl (Nat.le_of_ble_eq_true rfl) rfl ?_
  refine kk_aload_n 0 rfl e_X2_longestChain_0 ?_
  refine kk_getr e_X2_longestChain_1 fl_X2_15 rfl rfl ?_
  refine kk_getr e_X2_longestChain_4 fl_X2_19 rfl rfl ?_
  refine kk_iload_n 1 rfl e_X2_longestChain_7 ?_
  refine kk_iald e_X2_longestChain_8 rfl h.1 ?_
  replace h := h.2
  refine kk_aload_n 0 rfl e_X2_longestChain_9 ?_
  refine kk_getr e_X2_longestChain_10 fl_X2_15 rfl rfl ?_
  refine kk_getr e_X2_longestChain_13 fl_X2_19 rfl rfl ?_
  refine kk_iload_n 2 rfl e_X2_longestChain_16 ?_
  refine kk_iald e_X2_longestChain_17 rfl h.1 ?_
  replace h := h.2
  refine kk_ior e_X2_longestChain_18 ?_
  refine kk_topi (fun v3_1 ev3_1 => ?_)
  replace h := h v3_1 ev3_1
  refine kk_istore_n (lv' := [(3, .int v3_1), (0, .ref (Z.2.1 5)), (1, .int v1), (2, .int v2)]) e_X2_longestChain_19 rfl (by decide) rfl ?_
  refine kk_iload_n 0 rfl e_X2_longestChain_20 ?_
  refine kk_istore (lv' := [(4, .int v3_1), (3, .int v3_1), (0, .ref (Z.2.1 5)), (1, .int v1), (2, .int v2)]) e_X2_longestChain_21 (by decide) rfl ?_
  refine kk_iconst ic_0 e_X2_longestChain_23 ?_
  refine kk_istore (lv' := [(5, .int (0 : Int32)), (4, .int v3_1), (3, .int v3_1), (0, .ref (Z.2.1 5)), (1, .int v1), (2, .int v2)]) e_X2_longestChain_24 (by decide) rfl ?_
  refine kk_iconst ic_0 e_X2_longestChain_26 ?_
  refine kk_istore (lv' := [(6, .int (0 : Int32)), (5, .int (0 : Int32)), (4, .int v3_1), (3, .int v3_1), (0, .ref (Z.2.1 5)), (1, .int v1), (2, .int v2)]) e_X2_longestChain_27 (by decide) rfl ?_
  refine kk_sub [4, 3, 2, 1, 0] rfl ?_
  refine kk_lpW3 (P := fun (v4_2 : Int32) (v5_3 : Int32) (v6_4 : Int32) => KK Z sh_C RX2 cX2_longestChain 8 (some .int) (kk_R 4) (kk_Qi Z sh_C (fun r σ' => σ' = σ ∧ Q r)) 29 [(0, .ref (Z.2.1 5)), (3, .int v3_1), (4, .int v4_2), (5, .int v5_3), (6, .int v6_4)] [] σ) ?_ h
  intro rec_5 hrec_5 v4_2 v5_3 v6_4 h
  refine kk_iload 4 rfl e_X2_longestChain_29 ?_
  refine kk_aload_n 0 rfl e_X2_longestChain_31 ?_
  refine kk_getr e_X2_longestChain_32 fl_X2_9 rfl rfl ?_
  refine kk_geti e_X2_longestChain_35 fl_X2_25 rfl rfl ?_
  refine kk_icmp_ge e_X2_longestChain_38 (fun c_15 => ?_) (fun c_15 => ?_)
  · replace h := h.1 c_15
    refine kk_iload 3 rfl e_X2_longestChain_97 ?_
    exact kk_iret e_X2_longestChain_99 ⟨rfl, h⟩
  · replace h := h.2 c_15
    refine kk_iload 2 rfl e_X2_longestChain_41 ?_
    refine kk_iload 4 rfl e_X2_longestChain_43 ?_
    refine kk_ishr e_X2_longestChain_45 ?_
    refine kk_iconst ic_1 e_X2_longestChain_46 ?_
    refine kk_iand e_X2_longestChain_47 ?_
    refine kk_jW2 (P := fun (v4_6 : Int32) (v5_7 : Int32) => KK Z sh_C RX2 cX2_longestChain 8 (some .int) (kk_R 4) (kk_Qi Z sh_C (fun r σ' => σ' = σ ∧ Q r)) 91 [(0, .ref (Z.2.1 5)), (3, .int v3_1), (4, .int v4_6), (5, .int v5_7), (6, .int v6_4)] [] σ) h ?_ ?_
    · intro v4_6 v5_7 h
      refine kk_iinc (lv' := [(6, .int (v6_4 + (1 : Int32))), (0, .ref (Z.2.1 5)), (3, .int v3_1), (4, .int v4_6), (5, .int v5_7)]) e_X2_longestChain_91 (j := 4) rfl (ii_1 v6_4) (by decide) rfl ?_
      refine kk_goto e_X2_longestChain_94 ?_
      exact kk_sub [1, 2, 3, 4, 0] rfl (hrec_5 v4_6 v5_7 (v6_4 + (1 : Int32)) h)
    · intro J_8 hJ_8 h
      refine kk_if_eq e_X2_longestChain_48 (fun c_14 => ?_) (fun c_14 => ?_)
      · replace h := h.1 c_14
        exact kk_sub [0, 1, 2, 3, 4] rfl (hJ_8 v4_2 v5_3 h)
      · replace h := h.2 c_14
        refine kk_aload_n 0 rfl e_X2_longestChain_51 ?_
        refine kk_getr e_X2_longestChain_52 fl_X2_9 rfl rfl ?_
        refine kk_iconst ic_1 e_X2_longestChain_55 ?_
        refine kk_iload 4 rfl e_X2_longestChain_56 ?_
        refine kk_ishl e_X2_longestChain_58 ?_
        refine kk_iload_n 1 rfl e_X2_longestChain_59 ?_
        refine kk_callVip (As := [.int ((1 : Int32) <<< (v6_4 &&& 31)), .int v3_1]) (rest := []) e_X2_longestChain_60 ml_X2_31 ⟨_, _, _, _, rfl, rfl⟩ rfl (kk_fitR (by decide) (by decide)) (Nat.le_of_ble_eq_true rfl) rfl (s_X6_joined Z ((1 : Int32) <<< (v6_4 &&& 31)) v3_1 σ _ h) (fun r_9 h => ?_)
        refine kk_istore (lv' := [(7, .int r_9), (0, .ref (Z.2.1 5)), (3, .int v3_1), (4, .int v4_2), (5, .int v5_3), (6, .int v6_4)]) e_X2_longestChain_63 (by decide) rfl ?_
        refine kk_iload 3 rfl e_X2_longestChain_65 ?_
        refine kk_iload 0 rfl e_X2_longestChain_67 ?_
        refine kk_iconst ic_m1 e_X2_longestChain_69 ?_
        refine kk_ixor e_X2_longestChain_70 ?_
        refine kk_iand e_X2_longestChain_71 ?_
        refine kk_topi (fun v4_10 ev4_10 => ?_)
        replace h := h v4_10 ev4_10
        refine kk_istore (lv' := [(4, .int v4_10), (7, .int r_9), (0, .ref (Z.2.1 5)), (3, .int v3_1), (5, .int v5_3), (6, .int v6_4)]) e_X2_longestChain_72 (by decide) rfl ?_
        refine kk_iload 1 rfl e_X2_longestChain_74 ?_
        refine kk_callSip (As := [.int r_9]) (rest := []) e_X2_longestChain_76 ml_X2_35 rfl (kk_fitR (by decide) (by decide)) (Nat.le_of_ble_eq_true rfl) rfl (s_J6_bitCount_0f7a4 Z r_9 σ _ h) (fun r_11 h => ?_)
        refine kk_iload 4 rfl e_X2_longestChain_79 ?_
        refine kk_callSip (As := [.int v5_3]) (rest := [.int r_11]) e_X2_longestChain_81 ml_X2_35 rfl (kk_fitR (by decide) (by decide)) (Nat.le_of_ble_eq_true rfl) rfl (s_J6_bitCount_0f7a4 Z v5_3 σ _ h) (fun r_12 h => ?_)
        refine kk_icmp_le e_X2_longestChain_84 (fun c_13 => ?_) (fun c_13 => ?_)
        · replace h := h.1 c_13
          exact kk_sub [2, 3, 0, 4, 5] rfl (hJ_8 v4_10 v5_3 h)
        · replace h := h.2 c_13
          refine kk_iload 1 rfl e_X2_longestChain_87 ?_
          refine kk_istore (lv' := [(5, .int r_9), (4, .int v4_10), (7, .int r_9), (0, .ref (Z.2.1 5)), (3, .int v3_1), (6, .int v6_4)]) e_X2_longestChain_89 (by decide) rfl ?_
          exact kk_sub [3, 4, 1, 0, 5] rfl (hJ_8 v4_10 r_9 h)
theorem e_X10_longest_0 : kk_d cX10_longest 0 (.iload_n 1) 1 1 := ⟨by decide +kernel, rfl⟩
theorem e_X10_longest_1 : kk_dj cX10_longest 1 (.ifCond .lt 8) 3 (8) 4 9 := ⟨by decide +kernel, rfl, by decide⟩
theorem e_X10_longest_9 : kk_d cX10_longest 9 (.iconst (-1)) 1 10 := ⟨by decide +kernel, rfl⟩
theorem e_X10_longest_10 : kk_d cX10_longest 10 .ireturn 1 11 := ⟨by decide +kernel, rfl⟩
theorem e_X10_longest_4 : kk_d cX10_longest 4 (.iload_n 1) 1 5 := ⟨by decide +kernel, rfl⟩
theorem e_X10_longest_5 : kk_d cX10_longest 5 (.iconst 3) 1 6 := ⟨by decide +kernel, rfl⟩
theorem e_X10_longest_6 : kk_dj cX10_longest 6 (.if_icmp .le 5) 3 (5) 9 11 := ⟨by decide +kernel, rfl, by decide⟩
theorem e_X10_longest_11 : kk_d cX10_longest 11 (.iconst 0) 1 12 := ⟨by decide +kernel, rfl⟩
theorem e_X10_longest_12 : kk_d cX10_longest 12 (.istore_n 2) 1 13 := ⟨by decide +kernel, rfl⟩
theorem e_X10_longest_13 : kk_d cX10_longest 13 (.iconst 0) 1 14 := ⟨by decide +kernel, rfl⟩
theorem e_X10_longest_14 : kk_d cX10_longest 14 (.istore_n 3) 1 15 := ⟨by decide +kernel, rfl⟩
theorem e_X10_longest_15 : kk_d cX10_longest 15 (.iconst 0) 1 16 := ⟨by decide +kernel, rfl⟩
theorem e_X10_longest_16 : kk_d cX10_longest 16 (.istore 4) 2 18 := ⟨by decide +kernel, rfl⟩
theorem e_X10_longest_18 : kk_d cX10_longest 18 (.iload 4) 2 20 := ⟨by decide +kernel, rfl⟩
theorem e_X10_longest_20 : kk_d cX10_longest 20 (.aload_n 0) 1 21 := ⟨by decide +kernel, rfl⟩
theorem e_X10_longest_21 : kk_d cX10_longest 21 (.getfield 21) 3 24 := ⟨by decide +kernel, rfl⟩
theorem e_X10_longest_24 : kk_d cX10_longest 24 (.invokevirtual 176) 3 27 := ⟨by decide +kernel, rfl⟩
theorem e_X10_longest_27 : kk_dj cX10_longest 27 (.if_icmp .ge 70) 3 (70) 30 97 := ⟨by decide +kernel, rfl, by decide⟩
theorem e_X10_longest_97 : kk_d cX10_longest 97 (.iload_n 2) 1 98 := ⟨by decide +kernel, rfl⟩
theorem e_X10_longest_98 : kk_dj cX10_longest 98 (.ifCond .ne 6) 3 (6) 101 104 := ⟨by decide +kernel, rfl, by decide⟩
theorem e_X10_longest_104 : kk_d cX10_longest 104 (.iload_n 1) 1 105 := ⟨by decide +kernel, rfl⟩
theorem e_X10_longest_105 : decode cX10_longest 105 = .ok (.tableswitch 42 0 2 #[27, 32, 37], 27) := by decide +kernel
theorem e_X10_longest_132 : kk_d cX10_longest 132 (.iload_n 2) 1 133 := ⟨by decide +kernel, rfl⟩
theorem e_X10_longest_133 : kk_d cX10_longest 133 (.invokestatic 155) 3 136 := ⟨by decide +kernel, rfl⟩
theorem e_X10_longest_136 : kk_d cX10_longest 136 .ireturn 1 137 := ⟨by decide +kernel, rfl⟩
theorem e_X10_longest_137 : kk_d cX10_longest 137 (.iload_n 3) 1 138 := ⟨by decide +kernel, rfl⟩
theorem e_X10_longest_138 : kk_d cX10_longest 138 (.bipush 9) 2 140 := ⟨by decide +kernel, rfl⟩
theorem e_X10_longest_140 : kk_d cX10_longest 140 .idiv 1 141 := ⟨by decide +kernel, rfl⟩
theorem e_X10_longest_141 : kk_d cX10_longest 141 .ireturn 1 142 := ⟨by decide +kernel, rfl⟩
theorem e_X10_longest_142 : kk_d cX10_longest 142 (.iload_n 3) 1 143 := ⟨by decide +kernel, rfl⟩
theorem e_X10_longest_143 : kk_d cX10_longest 143 (.bipush 9) 2 145 := ⟨by decide +kernel, rfl⟩
theorem e_X10_longest_145 : kk_d cX10_longest 145 .irem 1 146 := ⟨by decide +kernel, rfl⟩
theorem e_X10_longest_146 : kk_d cX10_longest 146 .ireturn 1 147 := ⟨by decide +kernel, rfl⟩
theorem e_X10_longest_147 : kk_d cX10_longest 147 (.iload_n 2) 1 148 := ⟨by decide +kernel, rfl⟩
theorem e_X10_longest_148 : kk_d cX10_longest 148 (.invokestatic 288) 3 151 := ⟨by decide +kernel, rfl⟩
theorem e_X10_longest_151 : kk_d cX10_longest 151 .ireturn 1 152 := ⟨by decide +kernel, rfl⟩
theorem e_X10_longest_101 : kk_d cX10_longest 101 (.bipush (-2)) 2 103 := ⟨by decide +kernel, rfl⟩
theorem e_X10_longest_103 : kk_d cX10_longest 103 .ireturn 1 104 := ⟨by decide +kernel, rfl⟩
theorem e_X10_longest_30 : kk_d cX10_longest 30 (.iload 4) 2 32 := ⟨by decide +kernel, rfl⟩
theorem e_X10_longest_32 : kk_d cX10_longest 32 (.iconst 1) 1 33 := ⟨by decide +kernel, rfl⟩
theorem e_X10_longest_33 : kk_d cX10_longest 33 .iadd 1 34 := ⟨by decide +kernel, rfl⟩
theorem e_X10_longest_34 : kk_d cX10_longest 34 (.istore 5) 2 36 := ⟨by decide +kernel, rfl⟩
theorem e_X10_longest_36 : kk_d cX10_longest 36 (.iload 5) 2 38 := ⟨by decide +kernel, rfl⟩
theorem e_X10_longest_38 : kk_d cX10_longest 38 (.aload_n 0) 1 39 := ⟨by decide +kernel, rfl⟩
theorem e_X10_longest_39 : kk_d cX10_longest 39 (.getfield 21) 3 42 := ⟨by decide +kernel, rfl⟩
theorem e_X10_longest_42 : kk_d cX10_longest 42 (.invokevirtual 176) 3 45 := ⟨by decide +kernel, rfl⟩
theorem e_X10_longest_45 : kk_dj cX10_longest 45 (.if_icmp .ge 46) 3 (46) 48 91 := ⟨by decide +kernel, rfl, by decide⟩
theorem e_X10_longest_91 : kk_d cX10_longest 91 (.iinc 4 1) 3 94 := ⟨by decide +kernel, rfl⟩
theorem e_X10_longest_94 : kk_dj cX10_longest 94 (.goto (-76)) 3 (-76) 97 18 := ⟨by decide +kernel, rfl, by decide⟩
theorem e_X10_longest_48 : kk_d cX10_longest 48 (.aload_n 0) 1 49 := ⟨by decide +kernel, rfl⟩
theorem e_X10_longest_49 : kk_d cX10_longest 49 (.getfield 46) 3 52 := ⟨by decide +kernel, rfl⟩
theorem e_X10_longest_52 : kk_d cX10_longest 52 (.iload 4) 2 54 := ⟨by decide +kernel, rfl⟩
theorem e_X10_longest_54 : kk_d cX10_longest 54 (.iload 5) 2 56 := ⟨by decide +kernel, rfl⟩
theorem e_X10_longest_56 : kk_d cX10_longest 56 (.invokevirtual 285) 3 59 := ⟨by decide +kernel, rfl⟩
theorem e_X10_longest_59 : kk_d cX10_longest 59 (.istore 6) 2 61 := ⟨by decide +kernel, rfl⟩
theorem e_X10_longest_61 : kk_d cX10_longest 61 (.iload 6) 2 63 := ⟨by decide +kernel, rfl⟩
theorem e_X10_longest_63 : kk_d cX10_longest 63 (.invokestatic 155) 3 66 := ⟨by decide +kernel, rfl⟩
theorem e_X10_longest_66 : kk_d cX10_longest 66 (.iload_n 2) 1 67 := ⟨by decide +kernel, rfl⟩
theorem e_X10_longest_67 : kk_d cX10_longest 67 (.invokestatic 155) 3 70 := ⟨by decide +kernel, rfl⟩
theorem e_X10_longest_70 : kk_dj cX10_longest 70 (.if_icmp .le 15) 3 (15) 73 85 := ⟨by decide +kernel, rfl, by decide⟩
theorem e_X10_longest_85 : kk_d cX10_longest 85 (.iinc 5 1) 3 88 := ⟨by decide +kernel, rfl⟩
theorem e_X10_longest_88 : kk_dj cX10_longest 88 (.goto (-52)) 3 (-52) 91 36 := ⟨by decide +kernel, rfl, by decide⟩
theorem e_X10_longest_73 : kk_d cX10_longest 73 (.iload 6) 2 75 := ⟨by decide +kernel, rfl⟩
theorem e_X10_longest_75 : kk_d cX10_longest 75 (.istore_n 2) 1 76 := ⟨by decide +kernel, rfl⟩
theorem e_X10_longest_76 : kk_d cX10_longest 76 (.iload 4) 2 78 := ⟨by decide +kernel, rfl⟩
theorem e_X10_longest_78 : kk_d cX10_longest 78 (.bipush 9) 2 80 := ⟨by decide +kernel, rfl⟩
theorem e_X10_longest_80 : kk_d cX10_longest 80 .imul 1 81 := ⟨by decide +kernel, rfl⟩
theorem e_X10_longest_81 : kk_d cX10_longest 81 (.iload 5) 2 83 := ⟨by decide +kernel, rfl⟩
theorem e_X10_longest_83 : kk_d cX10_longest 83 .iadd 1 84 := ⟨by decide +kernel, rfl⟩
theorem e_X10_longest_84 : kk_d cX10_longest 84 (.istore_n 3) 1 85 := ⟨by decide +kernel, rfl⟩
set_option maxRecDepth 4000 in
theorem s_X10_longest (Z : kk_Z) (v1 : Int32) (σ : kk_St) (Q : Int32 → Prop) (h : f_X10_longest v1 σ Q) : kk_M Z sh_C yX10_longest cX10_longest 7 (some .int) (kk_R 5) [.ref (Z.2.1 0), .int v1] σ (kk_Qi Z sh_C (fun r σ' => σ' = σ ∧ Q r)) := by
  unfold f_X10_longest at h
  refine kk_met (own := RX10) (by decide) rfl (Nat.le_of_ble_eq_true rfl) rfl ?_
  refine kk_iload_n 1 rfl e_X10_longest_0 ?_
  refine kk_jW0 (P := KK Z sh_C RX10 cX10_longest 7 (some .int) (kk_R 5) (kk_Qi Z sh_C (fun r σ' => σ' = σ ∧ Q r)) 9 [] [] σ) h ?_ ?_
  · intro h
    refine kk_iconst ic_m1 e_X10_longest_9 ?_
    exact kk_iret e_X10_longest_10 ⟨rfl, h⟩
  · intro J_1 hJ_1 h
    refine kk_if_lt e_X10_longest_1 (fun c_26 => ?_) (fun c_26 => ?_)
    · replace h := h.1 c_26
      exact kk_sub [] rfl (hJ_1 h)
    · replace h := h.2 c_26
      refine kk_iload_n 1 rfl e_X10_longest_4 ?_
      refine kk_iconst ic_3 e_X10_longest_5 ?_
      refine kk_icmp_le e_X10_longest_6 (fun c_25 => ?_) (fun c_25 => ?_)
      · replace h := h.1 c_25
        refine kk_iconst ic_0 e_X10_longest_11 ?_
        refine kk_istore_n (lv' := [(2, .int (0 : Int32)), (0, .ref (Z.2.1 0)), (1, .int v1)]) e_X10_longest_12 rfl (by decide) rfl ?_
        refine kk_iconst ic_0 e_X10_longest_13 ?_
        refine kk_istore_n (lv' := [(3, .int (0 : Int32)), (2, .int (0 : Int32)), (0, .ref (Z.2.1 0)), (1, .int v1)]) e_X10_longest_14 rfl (by decide) rfl ?_
        refine kk_iconst ic_0 e_X10_longest_15 ?_
        refine kk_istore (lv' := [(4, .int (0 : Int32)), (3, .int (0 : Int32)), (2, .int (0 : Int32)), (0, .ref (Z.2.1 0)), (1, .int v1)]) e_X10_longest_16 (by decide) rfl ?_
        refine kk_sub [3, 4, 2, 1, 0] rfl ?_
        refine kk_lpW3 (P := fun (v2_2 : Int32) (v3_3 : Int32) (v4_4 : Int32) => KK Z sh_C RX10 cX10_longest 7 (some .int) (kk_R 5) (kk_Qi Z sh_C (fun r σ' => σ' = σ ∧ Q r)) 18 [(0, .ref (Z.2.1 0)), (1, .int v1), (2, .int v2_2), (3, .int v3_3), (4, .int v4_4)] [] σ) ?_ h
        intro rec_5 hrec_5 v2_2 v3_3 v4_4 h
        refine kk_iload 4 rfl e_X10_longest_18 ?_
        refine kk_aload_n 0 rfl e_X10_longest_20 ?_
        refine kk_getr e_X10_longest_21 fl_X10_21 rfl rfl ?_
        refine kk_callVip (As := []) (rest := [.int v4_4]) e_X10_longest_24 ml_X10_176 ⟨_, _, _, _, rfl, rfl⟩ rfl (kk_fitR (by decide) (by decide)) (Nat.le_of_ble_eq_true rfl) rfl (s_X3_colours Z σ _ h) (fun r_6 h => ?_)
        refine kk_icmp_ge e_X10_longest_27 (fun c_24 => ?_) (fun c_24 => ?_)
        · replace h := h.1 c_24
          refine kk_iload_n 2 rfl e_X10_longest_97 ?_
          refine kk_if_ne e_X10_longest_98 (fun c_9 => ?_) (fun c_9 => ?_)
          · replace h := h.1 c_9
            refine kk_iload_n 1 rfl e_X10_longest_104 ?_
            rcases kk_swc v1 3 (by decide) with ⟨i, hi, hx⟩ | hx
            · rcases (show i = 0 ∨ i = 1 ∨ i = 2 by omega) with rfl | rfl | rfl
              · replace h := h.1 hx
                refine kk_swIn (tgt := 132) e_X10_longest_105 0 hx (by decide) (by decide) rfl (by decide) ?_
                refine kk_iload_n 2 rfl e_X10_longest_132 ?_
                refine kk_callSip (As := [.int v2_2]) (rest := []) e_X10_longest_133 ml_X10_155 rfl (kk_fitR (by decide) (by decide)) (Nat.le_of_ble_eq_true rfl) rfl (s_J6_bitCount_0f7a4 Z v2_2 σ _ h) (fun r_7 h => ?_)
                exact kk_iret e_X10_longest_136 ⟨rfl, h⟩
              · replace h := h.2.1 hx
                refine kk_swIn (tgt := 137) e_X10_longest_105 1 hx (by decide) (by decide) rfl (by decide) ?_
                refine kk_iload_n 3 rfl e_X10_longest_137 ?_
                refine kk_bipush bp_9 e_X10_longest_138 ?_
                refine kk_idiv nz_9 e_X10_longest_140 ?_
                exact kk_iret e_X10_longest_141 ⟨rfl, h⟩
              · replace h := h.2.2.1 hx
                refine kk_swIn (tgt := 142) e_X10_longest_105 2 hx (by decide) (by decide) rfl (by decide) ?_
                refine kk_iload_n 3 rfl e_X10_longest_142 ?_
                refine kk_bipush bp_9 e_X10_longest_143 ?_
                refine kk_irem nz_9 e_X10_longest_145 ?_
                exact kk_iret e_X10_longest_146 ⟨rfl, h⟩
            · replace h := h.2.2.2 (by omega)
              refine kk_swOut (tgt := 147) e_X10_longest_105 (by omega) (by decide) ?_
              refine kk_iload_n 2 rfl e_X10_longest_147 ?_
              refine kk_callSip (As := [.int v2_2]) (rest := []) e_X10_longest_148 ml_X10_288 rfl (kk_fitR (by decide) (by decide)) (Nat.le_of_ble_eq_true rfl) rfl (s_J6_numberOfTrailingZeros_0f7a4 Z v2_2 σ _ h) (fun r_8 h => ?_)
              exact kk_iret e_X10_longest_151 ⟨rfl, h⟩
          · replace h := h.2 c_9
            refine kk_bipush bp_m2 e_X10_longest_101 ?_
            exact kk_iret e_X10_longest_103 ⟨rfl, h⟩
        · replace h := h.2 c_24
          refine kk_iload 4 rfl e_X10_longest_30 ?_
          refine kk_iconst ic_1 e_X10_longest_32 ?_
          refine kk_iadd e_X10_longest_33 ?_
          refine kk_istore (lv' := [(5, .int (v4_4 + (1 : Int32))), (0, .ref (Z.2.1 0)), (1, .int v1), (2, .int v2_2), (3, .int v3_3), (4, .int v4_4)]) e_X10_longest_34 (by decide) rfl ?_
          refine kk_sub [1, 2, 3, 4, 5, 0] rfl ?_
          refine kk_lpW3 (P := fun (v2_10 : Int32) (v3_11 : Int32) (v5_12 : Int32) => KK Z sh_C RX10 cX10_longest 7 (some .int) (kk_R 5) (kk_Qi Z sh_C (fun r σ' => σ' = σ ∧ Q r)) 36 [(0, .ref (Z.2.1 0)), (1, .int v1), (2, .int v2_10), (3, .int v3_11), (4, .int v4_4), (5, .int v5_12)] [] σ) ?_ h
          intro rec_13 hrec_13 v2_10 v3_11 v5_12 h
          refine kk_iload 5 rfl e_X10_longest_36 ?_
          refine kk_aload_n 0 rfl e_X10_longest_38 ?_
          refine kk_getr e_X10_longest_39 fl_X10_21 rfl rfl ?_
          refine kk_callVip (As := []) (rest := [.int v5_12]) e_X10_longest_42 ml_X10_176 ⟨_, _, _, _, rfl, rfl⟩ rfl (kk_fitR (by decide) (by decide)) (Nat.le_of_ble_eq_true rfl) rfl (s_X3_colours Z σ _ h) (fun r_14 h => ?_)
          refine kk_icmp_ge e_X10_longest_45 (fun c_23 => ?_) (fun c_23 => ?_)
          · replace h := h.1 c_23
            refine kk_iinc (lv' := [(4, .int (v4_4 + (1 : Int32))), (0, .ref (Z.2.1 0)), (1, .int v1), (2, .int v2_10), (3, .int v3_11), (5, .int v5_12)]) e_X10_longest_91 (j := 4) rfl (ii_1 v4_4) (by decide) rfl ?_
            refine kk_goto e_X10_longest_94 ?_
            exact kk_sub [1, 2, 3, 4, 0] rfl (hrec_5 v2_10 v3_11 (v4_4 + (1 : Int32)) h)
          · replace h := h.2 c_23
            refine kk_aload_n 0 rfl e_X10_longest_48 ?_
            refine kk_getr e_X10_longest_49 fl_X10_46 rfl rfl ?_
            refine kk_iload 4 rfl e_X10_longest_52 ?_
            refine kk_iload 5 rfl e_X10_longest_54 ?_
            refine kk_callVip (As := [.int v4_4, .int v5_12]) (rest := []) e_X10_longest_56 ml_X10_285 ⟨_, _, _, _, rfl, rfl⟩ rfl (kk_fitR (by decide) (by decide)) (Nat.le_of_ble_eq_true rfl) rfl (s_X2_longestChain Z v4_4 v5_12 σ _ h) (fun r_15 h => ?_)
            refine kk_istore (lv' := [(6, .int r_15), (0, .ref (Z.2.1 0)), (1, .int v1), (2, .int v2_10), (3, .int v3_11), (4, .int v4_4), (5, .int v5_12)]) e_X10_longest_59 (by decide) rfl ?_
            refine kk_iload 0 rfl e_X10_longest_61 ?_
            refine kk_callSip (As := [.int r_15]) (rest := []) e_X10_longest_63 ml_X10_155 rfl (kk_fitR (by decide) (by decide)) (Nat.le_of_ble_eq_true rfl) rfl (s_J6_bitCount_0f7a4 Z r_15 σ _ h) (fun r_16 h => ?_)
            refine kk_iload_n 3 rfl e_X10_longest_66 ?_
            refine kk_callSip (As := [.int v2_10]) (rest := [.int r_16]) e_X10_longest_67 ml_X10_155 rfl (kk_fitR (by decide) (by decide)) (Nat.le_of_ble_eq_true rfl) rfl (s_J6_bitCount_0f7a4 Z v2_10 σ _ h) (fun r_17 h => ?_)
            refine kk_jW2 (P := fun (v2_18 : Int32) (v3_19 : Int32) => KK Z sh_C RX10 cX10_longest 7 (some .int) (kk_R 5) (kk_Qi Z sh_C (fun r σ' => σ' = σ ∧ Q r)) 85 [(0, .ref (Z.2.1 0)), (1, .int v1), (2, .int v2_18), (3, .int v3_19), (4, .int v4_4), (5, .int v5_12)] [] σ) h ?_ ?_
            · intro v2_18 v3_19 h
              refine kk_iinc (lv' := [(5, .int (v5_12 + (1 : Int32))), (0, .ref (Z.2.1 0)), (1, .int v1), (2, .int v2_18), (3, .int v3_19), (4, .int v4_4)]) e_X10_longest_85 (j := 5) rfl (ii_1 v5_12) (by decide) rfl ?_
              refine kk_goto e_X10_longest_88 ?_
              exact kk_sub [1, 2, 3, 4, 5, 0] rfl (hrec_13 v2_18 v3_19 (v5_12 + (1 : Int32)) h)
            · intro J_20 hJ_20 h
              refine kk_icmp_le e_X10_longest_70 (fun c_22 => ?_) (fun c_22 => ?_)
              · replace h := h.1 c_22
                exact kk_sub [1, 2, 3, 4, 5, 6] rfl (hJ_20 v2_10 v3_11 h)
              · replace h := h.2 c_22
                refine kk_iload 0 rfl e_X10_longest_73 ?_
                refine kk_istore_n (lv' := [(2, .int r_15), (6, .int r_15), (0, .ref (Z.2.1 0)), (1, .int v1), (3, .int v3_11), (4, .int v4_4), (5, .int v5_12)]) e_X10_longest_75 rfl (by decide) rfl ?_
                refine kk_iload 5 rfl e_X10_longest_76 ?_
                refine kk_bipush bp_9 e_X10_longest_78 ?_
                refine kk_imul e_X10_longest_80 ?_
                refine kk_iload 6 rfl e_X10_longest_81 ?_
                refine kk_iadd e_X10_longest_83 ?_
                refine kk_topi (fun v3_21 ev3_21 => ?_)
                replace h := h v3_21 ev3_21
                refine kk_istore_n (lv' := [(3, .int v3_21), (2, .int r_15), (6, .int r_15), (0, .ref (Z.2.1 0)), (1, .int v1), (4, .int v4_4), (5, .int v5_12)]) e_X10_longest_84 rfl (by decide) rfl ?_
                exact kk_sub [3, 4, 1, 0, 5, 6] rfl (hJ_20 r_15 v3_21 h)
      · replace h := h.2 c_25
        exact kk_sub [] rfl (hJ_1 h)
theorem e_X10_of_0 : kk_d cX10_of 0 (.aload_n 0) 1 1 := ⟨by decide +kernel, rfl⟩
theorem e_X10_of_1 : kk_d cX10_of 1 (.getfield 10) 3 4 := ⟨by decide +kernel, rfl⟩
theorem e_X10_of_4 : kk_d cX10_of 4 (.iload_n 1) 1 5 := ⟨by decide +kernel, rfl⟩
theorem e_X10_of_5 : kk_d cX10_of 5 (.invokevirtual 124) 3 8 := ⟨by decide +kernel, rfl⟩
theorem e_X10_of_8 : kk_dj cX10_of 8 (.ifCond .ne 5) 3 (5) 11 13 := ⟨by decide +kernel, rfl, by decide⟩
theorem e_X10_of_13 : kk_d cX10_of 13 (.iload_n 2) 1 14 := ⟨by decide +kernel, rfl⟩
theorem e_X10_of_14 : decode cX10_of 14 = .ok (.tableswitch 88 0 3 #[30, 40, 50, 78], 30) := by decide +kernel
theorem e_X10_of_44 : kk_d cX10_of 44 (.aload_n 0) 1 45 := ⟨by decide +kernel, rfl⟩
theorem e_X10_of_45 : kk_d cX10_of 45 (.getfield 10) 3 48 := ⟨by decide +kernel, rfl⟩
theorem e_X10_of_48 : kk_d cX10_of 48 (.getfield 197) 3 51 := ⟨by decide +kernel, rfl⟩
theorem e_X10_of_51 : kk_d cX10_of 51 (.iload_n 1) 1 52 := ⟨by decide +kernel, rfl⟩
theorem e_X10_of_52 : kk_d cX10_of 52 .iaload 1 53 := ⟨by decide +kernel, rfl⟩
theorem e_X10_of_53 : kk_d cX10_of 53 .ireturn 1 54 := ⟨by decide +kernel, rfl⟩
theorem e_X10_of_54 : kk_d cX10_of 54 (.aload_n 0) 1 55 := ⟨by decide +kernel, rfl⟩
theorem e_X10_of_55 : kk_d cX10_of 55 (.getfield 10) 3 58 := ⟨by decide +kernel, rfl⟩
theorem e_X10_of_58 : kk_d cX10_of 58 (.getfield 200) 3 61 := ⟨by decide +kernel, rfl⟩
theorem e_X10_of_61 : kk_d cX10_of 61 (.iload_n 1) 1 62 := ⟨by decide +kernel, rfl⟩
theorem e_X10_of_62 : kk_d cX10_of 62 .iaload 1 63 := ⟨by decide +kernel, rfl⟩
theorem e_X10_of_63 : kk_d cX10_of 63 .ireturn 1 64 := ⟨by decide +kernel, rfl⟩
theorem e_X10_of_64 : kk_d cX10_of 64 (.aload_n 0) 1 65 := ⟨by decide +kernel, rfl⟩
theorem e_X10_of_65 : kk_d cX10_of 65 (.getfield 21) 3 68 := ⟨by decide +kernel, rfl⟩
theorem e_X10_of_68 : kk_d cX10_of 68 (.getfield 137) 3 71 := ⟨by decide +kernel, rfl⟩
theorem e_X10_of_71 : kk_d cX10_of 71 (.iload_n 1) 1 72 := ⟨by decide +kernel, rfl⟩
theorem e_X10_of_72 : kk_d cX10_of 72 .iaload 1 73 := ⟨by decide +kernel, rfl⟩
theorem e_X10_of_73 : kk_d cX10_of 73 (.iconst (-1)) 1 74 := ⟨by decide +kernel, rfl⟩
theorem e_X10_of_74 : kk_dj cX10_of 74 (.if_icmp .ne 8) 3 (8) 77 82 := ⟨by decide +kernel, rfl, by decide⟩
theorem e_X10_of_91 : kk_d cX10_of 91 .ireturn 1 92 := ⟨by decide +kernel, rfl⟩
theorem e_X10_of_82 : kk_d cX10_of 82 (.aload_n 0) 1 83 := ⟨by decide +kernel, rfl⟩
theorem e_X10_of_83 : kk_d cX10_of 83 (.getfield 21) 3 86 := ⟨by decide +kernel, rfl⟩
theorem e_X10_of_86 : kk_d cX10_of 86 (.getfield 137) 3 89 := ⟨by decide +kernel, rfl⟩
theorem e_X10_of_89 : kk_d cX10_of 89 (.iload_n 1) 1 90 := ⟨by decide +kernel, rfl⟩
theorem e_X10_of_90 : kk_d cX10_of 90 .iaload 1 91 := ⟨by decide +kernel, rfl⟩
theorem e_X10_of_77 : kk_d cX10_of 77 (.bipush (-2)) 2 79 := ⟨by decide +kernel, rfl⟩
theorem e_X10_of_79 : kk_dj cX10_of 79 (.goto 12) 3 (12) 82 91 := ⟨by decide +kernel, rfl, by decide⟩
theorem e_X10_of_92 : kk_d cX10_of 92 (.aload_n 0) 1 93 := ⟨by decide +kernel, rfl⟩
theorem e_X10_of_93 : kk_d cX10_of 93 (.getfield 10) 3 96 := ⟨by decide +kernel, rfl⟩
theorem e_X10_of_96 : kk_d cX10_of 96 (.getfield 203) 3 99 := ⟨by decide +kernel, rfl⟩
theorem e_X10_of_99 : kk_d cX10_of 99 (.iload_n 1) 1 100 := ⟨by decide +kernel, rfl⟩
theorem e_X10_of_100 : kk_d cX10_of 100 .iaload 1 101 := ⟨by decide +kernel, rfl⟩
theorem e_X10_of_101 : kk_d cX10_of 101 .ireturn 1 102 := ⟨by decide +kernel, rfl⟩
theorem e_X10_of_102 : kk_d cX10_of 102 (.iconst (-1)) 1 103 := ⟨by decide +kernel, rfl⟩
theorem e_X10_of_103 : kk_d cX10_of 103 .ireturn 1 104 := ⟨by decide +kernel, rfl⟩
theorem e_X10_of_11 : kk_d cX10_of 11 (.iconst (-1)) 1 12 := ⟨by decide +kernel, rfl⟩
theorem e_X10_of_12 : kk_d cX10_of 12 .ireturn 1 13 := ⟨by decide +kernel, rfl⟩
set_option maxRecDepth 4000 in
theorem s_X10_of (Z : kk_Z) (v1 : Int32) (v2 : Int32) (σ : kk_St) (Q : Int32 → Prop) (h : f_X10_of v1 v2 σ Q) : kk_M Z sh_C yX10_of cX10_of 3 (some .int) (kk_R 3) [.ref (Z.2.1 0), .int v1, .int v2] σ (kk_Qi Z sh_C (fun r σ' => σ' = σ ∧ Q r)) := by
  unfold f_X10_of at h
  refine kk_met (own := RX10) (by decide) rfl (Nat.le_of_ble_eq_true rfl) rfl ?_
  refine kk_aload_n 0 rfl e_X10_of_0 ?_
  refine kk_getr e_X10_of_1 fl_X10_10 rfl rfl ?_
  refine kk_iload_n 1 rfl e_X10_of_4 ?_
  refine kk_callVip (As := [.int v1]) (rest := []) e_X10_of_5 ml_X10_124 ⟨_, _, _, _, rfl, rfl⟩ rfl (kk_fitR (by decide) (by decide)) (Nat.le_of_ble_eq_true rfl) rfl (s_X6_isLine Z v1 σ _ h) (fun r_1 h => ?_)
  refine kk_if_ne e_X10_of_8 (fun c_5 => ?_) (fun c_5 => ?_)
  · replace h := h.1 c_5
    refine kk_iload_n 2 rfl e_X10_of_13 ?_
    rcases kk_swc v2 4 (by decide) with ⟨i, hi, hx⟩ | hx
    · rcases (show i = 0 ∨ i = 1 ∨ i = 2 ∨ i = 3 by omega) with rfl | rfl | rfl | rfl
      · replace h := h.1 hx
        refine kk_swIn (tgt := 44) e_X10_of_14 0 hx (by decide) (by decide) rfl (by decide) ?_
        refine kk_aload_n 0 rfl e_X10_of_44 ?_
        refine kk_getr e_X10_of_45 fl_X10_10 rfl rfl ?_
        refine kk_getr e_X10_of_48 fl_X10_197 rfl rfl ?_
        refine kk_iload_n 1 rfl e_X10_of_51 ?_
        refine kk_iald e_X10_of_52 rfl h.1 ?_
        replace h := h.2
        exact kk_iret e_X10_of_53 ⟨rfl, h⟩
      · replace h := h.2.1 hx
        refine kk_swIn (tgt := 54) e_X10_of_14 1 hx (by decide) (by decide) rfl (by decide) ?_
        refine kk_aload_n 0 rfl e_X10_of_54 ?_
        refine kk_getr e_X10_of_55 fl_X10_10 rfl rfl ?_
        refine kk_getr e_X10_of_58 fl_X10_200 rfl rfl ?_
        refine kk_iload_n 1 rfl e_X10_of_61 ?_
        refine kk_iald e_X10_of_62 rfl h.1 ?_
        replace h := h.2
        exact kk_iret e_X10_of_63 ⟨rfl, h⟩
      · replace h := h.2.2.1 hx
        refine kk_swIn (tgt := 64) e_X10_of_14 2 hx (by decide) (by decide) rfl (by decide) ?_
        refine kk_aload_n 0 rfl e_X10_of_64 ?_
        refine kk_getr e_X10_of_65 fl_X10_21 rfl rfl ?_
        refine kk_getr e_X10_of_68 fl_X10_137 rfl rfl ?_
        refine kk_iload_n 1 rfl e_X10_of_71 ?_
        refine kk_iald e_X10_of_72 rfl h.1 ?_
        replace h := h.2
        refine kk_iconst ic_m1 e_X10_of_73 ?_
        refine kk_jW1 (P := fun (t_2 : Int32) => KK Z sh_C RX10 cX10_of 3 (some .int) (kk_R 3) (kk_Qi Z sh_C (fun r σ' => σ' = σ ∧ Q r)) 91 [] [.int t_2] σ) h ?_ ?_
        · intro t_2 h
          exact kk_iret e_X10_of_91 ⟨rfl, h⟩
        · intro J_3 hJ_3 h
          refine kk_icmp_ne e_X10_of_74 (fun c_4 => ?_) (fun c_4 => ?_)
          · replace h := h.1 c_4
            refine kk_aload_n 0 rfl e_X10_of_82 ?_
            refine kk_getr e_X10_of_83 fl_X10_21 rfl rfl ?_
            refine kk_getr e_X10_of_86 fl_X10_137 rfl rfl ?_
            refine kk_iload_n 1 rfl e_X10_of_89 ?_
            refine kk_iald e_X10_of_90 rfl h.1 ?_
            replace h := h.2
            exact kk_sub [] rfl (hJ_3 (kk_rd σ 16 v1) h)
          · replace h := h.2 c_4
            refine kk_bipush bp_m2 e_X10_of_77 ?_
            refine kk_goto e_X10_of_79 ?_
            exact kk_sub [] rfl (hJ_3 (-2 : Int32) h)
      · replace h := h.2.2.2.1 hx
        refine kk_swIn (tgt := 92) e_X10_of_14 3 hx (by decide) (by decide) rfl (by decide) ?_
        refine kk_aload_n 0 rfl e_X10_of_92 ?_
        refine kk_getr e_X10_of_93 fl_X10_10 rfl rfl ?_
        refine kk_getr e_X10_of_96 fl_X10_203 rfl rfl ?_
        refine kk_iload_n 1 rfl e_X10_of_99 ?_
        refine kk_iald e_X10_of_100 rfl h.1 ?_
        replace h := h.2
        exact kk_iret e_X10_of_101 ⟨rfl, h⟩
    · replace h := h.2.2.2.2 (by omega)
      refine kk_swOut (tgt := 102) e_X10_of_14 (by omega) (by decide) ?_
      refine kk_iconst ic_m1 e_X10_of_102 ?_
      exact kk_iret e_X10_of_103 ⟨rfl, h⟩
  · replace h := h.2 c_5
    refine kk_iconst ic_m1 e_X10_of_11 ?_
    exact kk_iret e_X10_of_12 ⟨rfl, h⟩
theorem e_X10_overfull_0 : kk_d cX10_overfull 0 (.iload_n 1) 1 1 := ⟨by decide +kernel, rfl⟩
theorem e_X10_overfull_1 : kk_dj cX10_overfull 1 (.ifCond .lt 8) 3 (8) 4 9 := ⟨by decide +kernel, rfl, by decide⟩
theorem e_X10_overfull_9 : kk_d cX10_overfull 9 (.iconst (-1)) 1 10 := ⟨by decide +kernel, rfl⟩
theorem e_X10_overfull_10 : kk_d cX10_overfull 10 .ireturn 1 11 := ⟨by decide +kernel, rfl⟩
theorem e_X10_overfull_4 : kk_d cX10_overfull 4 (.iload_n 1) 1 5 := ⟨by decide +kernel, rfl⟩
theorem e_X10_overfull_5 : kk_d cX10_overfull 5 (.iconst 2) 1 6 := ⟨by decide +kernel, rfl⟩
theorem e_X10_overfull_6 : kk_dj cX10_overfull 6 (.if_icmp .le 5) 3 (5) 9 11 := ⟨by decide +kernel, rfl, by decide⟩
theorem e_X10_overfull_11 : kk_d cX10_overfull 11 (.aload_n 0) 1 12 := ⟨by decide +kernel, rfl⟩
theorem e_X10_overfull_12 : kk_d cX10_overfull 12 (.getfield 10) 3 15 := ⟨by decide +kernel, rfl⟩
theorem e_X10_overfull_15 : kk_d cX10_overfull 15 (.aload_n 0) 1 16 := ⟨by decide +kernel, rfl⟩
theorem e_X10_overfull_16 : kk_d cX10_overfull 16 (.getfield 10) 3 19 := ⟨by decide +kernel, rfl⟩
theorem e_X10_overfull_19 : kk_d cX10_overfull 19 (.invokevirtual 263) 3 22 := ⟨by decide +kernel, rfl⟩
theorem e_X10_overfull_22 : kk_d cX10_overfull 22 (.aload_n 0) 1 23 := ⟨by decide +kernel, rfl⟩
theorem e_X10_overfull_23 : kk_d cX10_overfull 23 (.getfield 10) 3 26 := ⟨by decide +kernel, rfl⟩
theorem e_X10_overfull_26 : kk_d cX10_overfull 26 (.getfield 266) 3 29 := ⟨by decide +kernel, rfl⟩
theorem e_X10_overfull_29 : kk_d cX10_overfull 29 (.invokevirtual 269) 3 32 := ⟨by decide +kernel, rfl⟩
theorem e_X10_overfull_32 : kk_d cX10_overfull 32 (.istore_n 2) 1 33 := ⟨by decide +kernel, rfl⟩
theorem e_X10_overfull_33 : kk_d cX10_overfull 33 (.iload_n 2) 1 34 := ⟨by decide +kernel, rfl⟩
theorem e_X10_overfull_34 : kk_dj cX10_overfull 34 (.ifCond .ne 6) 3 (6) 37 40 := ⟨by decide +kernel, rfl, by decide⟩
theorem e_X10_overfull_40 : kk_d cX10_overfull 40 (.iload_n 1) 1 41 := ⟨by decide +kernel, rfl⟩
theorem e_X10_overfull_41 : kk_dj cX10_overfull 41 (.ifCond .ne 5) 3 (5) 44 46 := ⟨by decide +kernel, rfl, by decide⟩
theorem e_X10_overfull_46 : kk_d cX10_overfull 46 (.iload_n 1) 1 47 := ⟨by decide +kernel, rfl⟩
theorem e_X10_overfull_47 : kk_d cX10_overfull 47 (.iconst 1) 1 48 := ⟨by decide +kernel, rfl⟩
theorem e_X10_overfull_48 : kk_dj cX10_overfull 48 (.if_icmp .ne 21) 3 (21) 51 69 := ⟨by decide +kernel, rfl, by decide⟩
theorem e_X10_overfull_83 : kk_d cX10_overfull 83 .ireturn 1 84 := ⟨by decide +kernel, rfl⟩
theorem e_X10_overfull_69 : kk_d cX10_overfull 69 (.aload_n 0) 1 70 := ⟨by decide +kernel, rfl⟩
theorem e_X10_overfull_70 : kk_d cX10_overfull 70 (.getfield 10) 3 73 := ⟨by decide +kernel, rfl⟩
theorem e_X10_overfull_73 : kk_d cX10_overfull 73 (.getfield 266) 3 76 := ⟨by decide +kernel, rfl⟩
theorem e_X10_overfull_76 : kk_d cX10_overfull 76 (.iload_n 2) 1 77 := ⟨by decide +kernel, rfl⟩
theorem e_X10_overfull_77 : kk_d cX10_overfull 77 (.invokestatic 155) 3 80 := ⟨by decide +kernel, rfl⟩
theorem e_X10_overfull_80 : kk_d cX10_overfull 80 (.iconst 2) 1 81 := ⟨by decide +kernel, rfl⟩
theorem e_X10_overfull_81 : kk_d cX10_overfull 81 .idiv 1 82 := ⟨by decide +kernel, rfl⟩
theorem e_X10_overfull_82 : kk_d cX10_overfull 82 .imul 1 83 := ⟨by decide +kernel, rfl⟩
theorem e_X10_overfull_51 : kk_d cX10_overfull 51 (.aload_n 0) 1 52 := ⟨by decide +kernel, rfl⟩
theorem e_X10_overfull_52 : kk_d cX10_overfull 52 (.getfield 10) 3 55 := ⟨by decide +kernel, rfl⟩
theorem e_X10_overfull_55 : kk_d cX10_overfull 55 (.iload_n 2) 1 56 := ⟨by decide +kernel, rfl⟩
theorem e_X10_overfull_56 : kk_d cX10_overfull 56 (.aload_n 0) 1 57 := ⟨by decide +kernel, rfl⟩
theorem e_X10_overfull_57 : kk_d cX10_overfull 57 (.getfield 10) 3 60 := ⟨by decide +kernel, rfl⟩
theorem e_X10_overfull_60 : kk_d cX10_overfull 60 (.invokevirtual 263) 3 63 := ⟨by decide +kernel, rfl⟩
theorem e_X10_overfull_63 : kk_d cX10_overfull 63 (.invokevirtual 272) 3 66 := ⟨by decide +kernel, rfl⟩
theorem e_X10_overfull_66 : kk_dj cX10_overfull 66 (.goto 17) 3 (17) 69 83 := ⟨by decide +kernel, rfl, by decide⟩
theorem e_X10_overfull_44 : kk_d cX10_overfull 44 (.iload_n 2) 1 45 := ⟨by decide +kernel, rfl⟩
theorem e_X10_overfull_45 : kk_d cX10_overfull 45 .ireturn 1 46 := ⟨by decide +kernel, rfl⟩
theorem e_X10_overfull_37 : kk_d cX10_overfull 37 (.bipush (-2)) 2 39 := ⟨by decide +kernel, rfl⟩
theorem e_X10_overfull_39 : kk_d cX10_overfull 39 .ireturn 1 40 := ⟨by decide +kernel, rfl⟩
set_option maxRecDepth 4000 in
theorem s_X10_overfull (Z : kk_Z) (v1 : Int32) (σ : kk_St) (Q : Int32 → Prop) (h : f_X10_overfull v1 σ Q) : kk_M Z sh_C yX10_overfull cX10_overfull 3 (some .int) (kk_R 5) [.ref (Z.2.1 0), .int v1] σ (kk_Qi Z sh_C (fun r σ' => σ' = σ ∧ Q r)) := by
  unfold f_X10_overfull at h
  refine kk_met (own := RX10) (by decide) rfl (Nat.le_of_ble_eq_true rfl) rfl ?_
  refine kk_iload_n 1 rfl e_X10_overfull_0 ?_
  refine kk_jW0 (P := KK Z sh_C RX10 cX10_overfull 3 (some .int) (kk_R 5) (kk_Qi Z sh_C (fun r σ' => σ' = σ ∧ Q r)) 9 [] [] σ) h ?_ ?_
  · intro h
    refine kk_iconst ic_m1 e_X10_overfull_9 ?_
    exact kk_iret e_X10_overfull_10 ⟨rfl, h⟩
  · intro J_1 hJ_1 h
    refine kk_if_lt e_X10_overfull_1 (fun c_13 => ?_) (fun c_13 => ?_)
    · replace h := h.1 c_13
      exact kk_sub [] rfl (hJ_1 h)
    · replace h := h.2 c_13
      refine kk_iload_n 1 rfl e_X10_overfull_4 ?_
      refine kk_iconst ic_2 e_X10_overfull_5 ?_
      refine kk_icmp_le e_X10_overfull_6 (fun c_12 => ?_) (fun c_12 => ?_)
      · replace h := h.1 c_12
        refine kk_aload_n 0 rfl e_X10_overfull_11 ?_
        refine kk_getr e_X10_overfull_12 fl_X10_10 rfl rfl ?_
        refine kk_aload_n 0 rfl e_X10_overfull_15 ?_
        refine kk_getr e_X10_overfull_16 fl_X10_10 rfl rfl ?_
        refine kk_callVip (As := []) (rest := [.ref (Z.2.1 1)]) e_X10_overfull_19 ml_X10_263 ⟨_, _, _, _, rfl, rfl⟩ rfl (kk_fitR (by decide) (by decide)) (Nat.le_of_ble_eq_true rfl) rfl (s_X6_allLines Z σ _ h) (fun r_2 h => ?_)
        refine kk_aload_n 0 rfl e_X10_overfull_22 ?_
        refine kk_getr e_X10_overfull_23 fl_X10_10 rfl rfl ?_
        refine kk_geti e_X10_overfull_26 fl_X10_266 rfl rfl ?_
        refine kk_callVip (As := [.int r_2, .int (σ.1 1 7)]) (rest := []) e_X10_overfull_29 ml_X10_269 ⟨_, _, _, _, rfl, rfl⟩ rfl (kk_fitR (by decide) (by decide)) (Nat.le_of_ble_eq_true rfl) rfl (s_X6_crowdedSet Z r_2 (σ.1 1 7) σ _ h) (fun r_3 h => ?_)
        refine kk_istore_n (lv' := [(2, .int r_3), (0, .ref (Z.2.1 0)), (1, .int v1)]) e_X10_overfull_32 rfl (by decide) rfl ?_
        refine kk_iload_n 0 rfl e_X10_overfull_33 ?_
        refine kk_if_ne e_X10_overfull_34 (fun c_11 => ?_) (fun c_11 => ?_)
        · replace h := h.1 c_11
          refine kk_iload_n 2 rfl e_X10_overfull_40 ?_
          refine kk_if_ne e_X10_overfull_41 (fun c_10 => ?_) (fun c_10 => ?_)
          · replace h := h.1 c_10
            refine kk_iload_n 2 rfl e_X10_overfull_46 ?_
            refine kk_iconst ic_1 e_X10_overfull_47 ?_
            refine kk_jW1 (P := fun (t_4 : Int32) => KK Z sh_C RX10 cX10_overfull 3 (some .int) (kk_R 5) (kk_Qi Z sh_C (fun r σ' => σ' = σ ∧ Q r)) 83 [] [.int t_4] σ) h ?_ ?_
            · intro t_4 h
              exact kk_iret e_X10_overfull_83 ⟨rfl, h⟩
            · intro J_5 hJ_5 h
              refine kk_icmp_ne e_X10_overfull_48 (fun c_9 => ?_) (fun c_9 => ?_)
              · replace h := h.1 c_9
                refine kk_aload_n 1 rfl e_X10_overfull_69 ?_
                refine kk_getr e_X10_overfull_70 fl_X10_10 rfl rfl ?_
                refine kk_geti e_X10_overfull_73 fl_X10_266 rfl rfl ?_
                refine kk_iload_n 0 rfl e_X10_overfull_76 ?_
                refine kk_callSip (As := [.int r_3]) (rest := [.int (σ.1 1 7)]) e_X10_overfull_77 ml_X10_155 rfl (kk_fitR (by decide) (by decide)) (Nat.le_of_ble_eq_true rfl) rfl (s_J6_bitCount_0f7a4 Z r_3 σ _ h) (fun r_6 h => ?_)
                refine kk_iconst ic_2 e_X10_overfull_80 ?_
                refine kk_idiv nz_2 e_X10_overfull_81 ?_
                refine kk_imul e_X10_overfull_82 ?_
                exact kk_sub [] rfl (hJ_5 ((σ.1 1 7) * (r_6 / (2 : Int32))) h)
              · replace h := h.2 c_9
                refine kk_aload_n 1 rfl e_X10_overfull_51 ?_
                refine kk_getr e_X10_overfull_52 fl_X10_10 rfl rfl ?_
                refine kk_iload_n 0 rfl e_X10_overfull_55 ?_
                refine kk_aload_n 1 rfl e_X10_overfull_56 ?_
                refine kk_getr e_X10_overfull_57 fl_X10_10 rfl rfl ?_
                refine kk_callVip (As := []) (rest := [.int r_3, .ref (Z.2.1 1)]) e_X10_overfull_60 ml_X10_263 ⟨_, _, _, _, rfl, rfl⟩ rfl (kk_fitR (by decide) (by decide)) (Nat.le_of_ble_eq_true rfl) rfl (s_X6_allLines Z σ _ h) (fun r_7 h => ?_)
                refine kk_callVip (As := [.int r_3, .int r_7]) (rest := []) e_X10_overfull_63 ml_X10_272 ⟨_, _, _, _, rfl, rfl⟩ rfl (kk_fitR (by decide) (by decide)) (Nat.le_of_ble_eq_true rfl) rfl (s_X6_linesWithin Z r_3 r_7 σ _ h) (fun r_8 h => ?_)
                refine kk_goto e_X10_overfull_66 ?_
                exact kk_sub [] rfl (hJ_5 r_8 h)
          · replace h := h.2 c_10
            refine kk_iload_n 0 rfl e_X10_overfull_44 ?_
            exact kk_iret e_X10_overfull_45 ⟨rfl, h⟩
        · replace h := h.2 c_11
          refine kk_bipush bp_m2 e_X10_overfull_37 ?_
          exact kk_iret e_X10_overfull_39 ⟨rfl, h⟩
      · replace h := h.2 c_12
        exact kk_sub [] rfl (hJ_1 h)
theorem e_X10_paint_0 : kk_d cX10_paint 0 (.aload_n 0) 1 1 := ⟨by decide +kernel, rfl⟩
theorem e_X10_paint_1 : kk_d cX10_paint 1 (.getfield 10) 3 4 := ⟨by decide +kernel, rfl⟩
theorem e_X10_paint_4 : kk_d cX10_paint 4 (.iload_n 1) 1 5 := ⟨by decide +kernel, rfl⟩
theorem e_X10_paint_5 : kk_d cX10_paint 5 (.invokevirtual 124) 3 8 := ⟨by decide +kernel, rfl⟩
theorem e_X10_paint_8 : kk_dj cX10_paint 8 (.ifCond .eq 29) 3 (29) 11 37 := ⟨by decide +kernel, rfl, by decide⟩
theorem e_X10_paint_37 : kk_d cX10_paint 37 (.iconst 0) 1 38 := ⟨by decide +kernel, rfl⟩
theorem e_X10_paint_38 : kk_d cX10_paint 38 .ireturn 1 39 := ⟨by decide +kernel, rfl⟩
theorem e_X10_paint_11 : kk_d cX10_paint 11 (.aload_n 0) 1 12 := ⟨by decide +kernel, rfl⟩
theorem e_X10_paint_12 : kk_d cX10_paint 12 (.getfield 21) 3 15 := ⟨by decide +kernel, rfl⟩
theorem e_X10_paint_15 : kk_d cX10_paint 15 (.iload_n 2) 1 16 := ⟨by decide +kernel, rfl⟩
theorem e_X10_paint_16 : kk_d cX10_paint 16 (.invokevirtual 127) 3 19 := ⟨by decide +kernel, rfl⟩
theorem e_X10_paint_19 : kk_dj cX10_paint 19 (.ifCond .eq 18) 3 (18) 22 37 := ⟨by decide +kernel, rfl, by decide⟩
theorem e_X10_paint_22 : kk_d cX10_paint 22 (.aload_n 0) 1 23 := ⟨by decide +kernel, rfl⟩
theorem e_X10_paint_23 : kk_d cX10_paint 23 (.getfield 21) 3 26 := ⟨by decide +kernel, rfl⟩
theorem e_X10_paint_26 : kk_d cX10_paint 26 (.iload_n 1) 1 27 := ⟨by decide +kernel, rfl⟩
theorem e_X10_paint_27 : kk_d cX10_paint 27 (.invokevirtual 130) 3 30 := ⟨by decide +kernel, rfl⟩
theorem e_X10_paint_30 : kk_d cX10_paint 30 (.iload_n 2) 1 31 := ⟨by decide +kernel, rfl⟩
theorem e_X10_paint_31 : kk_d cX10_paint 31 .ishr 1 32 := ⟨by decide +kernel, rfl⟩
theorem e_X10_paint_32 : kk_d cX10_paint 32 (.iconst 1) 1 33 := ⟨by decide +kernel, rfl⟩
theorem e_X10_paint_33 : kk_d cX10_paint 33 .iand 1 34 := ⟨by decide +kernel, rfl⟩
theorem e_X10_paint_34 : kk_dj cX10_paint 34 (.ifCond .ne 5) 3 (5) 37 39 := ⟨by decide +kernel, rfl, by decide⟩
theorem e_X10_paint_39 : kk_d cX10_paint 39 (.aload_n 0) 1 40 := ⟨by decide +kernel, rfl⟩
theorem e_X10_paint_40 : kk_d cX10_paint 40 (.getfield 21) 3 43 := ⟨by decide +kernel, rfl⟩
theorem e_X10_paint_43 : kk_d cX10_paint 43 (.iload_n 1) 1 44 := ⟨by decide +kernel, rfl⟩
theorem e_X10_paint_44 : kk_d cX10_paint 44 (.iload_n 2) 1 45 := ⟨by decide +kernel, rfl⟩
theorem e_X10_paint_45 : kk_d cX10_paint 45 (.invokevirtual 134) 3 48 := ⟨by decide +kernel, rfl⟩
theorem e_X10_paint_48 : kk_d cX10_paint 48 (.iconst 1) 1 49 := ⟨by decide +kernel, rfl⟩
theorem e_X10_paint_49 : kk_d cX10_paint 49 .ireturn 1 50 := ⟨by decide +kernel, rfl⟩
set_option maxRecDepth 4000 in
theorem s_X10_paint (Z : kk_Z) (v1 : Int32) (v2 : Int32) (σ : kk_St) (Q : Int32 → kk_St → Prop) (h : f_X10_paint v1 v2 σ Q) : kk_M Z sh_C yX10_paint cX10_paint 3 (some .boolean) (kk_R 5) [.ref (Z.2.1 0), .int v1, .int v2] σ (kk_Qi Z sh_C Q) := by
  unfold f_X10_paint at h
  refine kk_met (own := RX10) (by decide) rfl (Nat.le_of_ble_eq_true rfl) rfl ?_
  refine kk_aload_n 0 rfl e_X10_paint_0 ?_
  refine kk_getr e_X10_paint_1 fl_X10_10 rfl rfl ?_
  refine kk_iload_n 1 rfl e_X10_paint_4 ?_
  refine kk_callVip (As := [.int v1]) (rest := []) e_X10_paint_5 ml_X10_124 ⟨_, _, _, _, rfl, rfl⟩ rfl (kk_fitR (by decide) (by decide)) (Nat.le_of_ble_eq_true rfl) rfl (s_X6_isLine Z v1 σ _ h) (fun r_1 h => ?_)
  refine kk_jW0 (P := KK Z sh_C RX10 cX10_paint 3 (some .boolean) (kk_R 5) (kk_Qi Z sh_C Q) 37 [] [] σ) h ?_ ?_
  · intro h
    refine kk_iconst ic_0 e_X10_paint_37 ?_
    exact kk_zret e_X10_paint_38 (Or.inl rfl) h
  · intro J_2 hJ_2 h
    refine kk_if_eq e_X10_paint_8 (fun c_8 => ?_) (fun c_8 => ?_)
    · replace h := h.1 c_8
      exact kk_sub [] rfl (hJ_2 h)
    · replace h := h.2 c_8
      refine kk_aload_n 0 rfl e_X10_paint_11 ?_
      refine kk_getr e_X10_paint_12 fl_X10_21 rfl rfl ?_
      refine kk_iload_n 2 rfl e_X10_paint_15 ?_
      refine kk_callVip (As := [.int v2]) (rest := []) e_X10_paint_16 ml_X10_127 ⟨_, _, _, _, rfl, rfl⟩ rfl (kk_fitR (by decide) (by decide)) (Nat.le_of_ble_eq_true rfl) rfl (s_X3_isColour Z v2 σ _ h) (fun r_3 h => ?_)
      refine kk_if_eq e_X10_paint_19 (fun c_7 => ?_) (fun c_7 => ?_)
      · replace h := h.1 c_7
        exact kk_sub [] rfl (hJ_2 h)
      · replace h := h.2 c_7
        refine kk_aload_n 0 rfl e_X10_paint_22 ?_
        refine kk_getr e_X10_paint_23 fl_X10_21 rfl rfl ?_
        refine kk_iload_n 1 rfl e_X10_paint_26 ?_
        refine kk_callVip (As := [.int v1]) (rest := []) e_X10_paint_27 ml_X10_130 ⟨_, _, _, _, rfl, rfl⟩ rfl (kk_fitR (by decide) (by decide)) (Nat.le_of_ble_eq_true rfl) rfl (s_X3_freeAtBoth Z v1 σ _ h) (fun r_4 h => ?_)
        refine kk_iload_n 2 rfl e_X10_paint_30 ?_
        refine kk_ishr e_X10_paint_31 ?_
        refine kk_iconst ic_1 e_X10_paint_32 ?_
        refine kk_iand e_X10_paint_33 ?_
        refine kk_if_ne e_X10_paint_34 (fun c_6 => ?_) (fun c_6 => ?_)
        · replace h := h.1 c_6
          refine kk_aload_n 0 rfl e_X10_paint_39 ?_
          refine kk_getr e_X10_paint_40 fl_X10_21 rfl rfl ?_
          refine kk_iload_n 1 rfl e_X10_paint_43 ?_
          refine kk_iload_n 2 rfl e_X10_paint_44 ?_
          refine kk_callVv (As := [.int v1, .int v2]) (rest := []) e_X10_paint_45 ml_X10_134 ⟨_, _, _, _, rfl, rfl⟩ rfl (kk_fitR (by decide) (by decide)) (Nat.le_of_ble_eq_true rfl) rfl (s_X3_give Z v1 v2 σ _ h) (fun σ_5 h => ?_)
          refine kk_iconst ic_1 e_X10_paint_48 ?_
          exact kk_zret e_X10_paint_49 (Or.inr rfl) h
        · replace h := h.2 c_6
          exact kk_sub [] rfl (hJ_2 h)
theorem e_X3_giveBelowDegree_0 : kk_d cX3_giveBelowDegree 0 (.aload_n 0) 1 1 := ⟨by decide +kernel, rfl⟩
theorem e_X3_giveBelowDegree_1 : kk_d cX3_giveBelowDegree 1 (.iload_n 1) 1 2 := ⟨by decide +kernel, rfl⟩
theorem e_X3_giveBelowDegree_2 : kk_d cX3_giveBelowDegree 2 (.invokevirtual 88) 3 5 := ⟨by decide +kernel, rfl⟩
theorem e_X3_giveBelowDegree_5 : kk_d cX3_giveBelowDegree 5 (.iconst 1) 1 6 := ⟨by decide +kernel, rfl⟩
theorem e_X3_giveBelowDegree_6 : kk_d cX3_giveBelowDegree 6 (.aload_n 0) 1 7 := ⟨by decide +kernel, rfl⟩
theorem e_X3_giveBelowDegree_7 : kk_d cX3_giveBelowDegree 7 (.getfield 18) 3 10 := ⟨by decide +kernel, rfl⟩
theorem e_X3_giveBelowDegree_10 : kk_d cX3_giveBelowDegree 10 (.getfield 28) 3 13 := ⟨by decide +kernel, rfl⟩
theorem e_X3_giveBelowDegree_13 : kk_d cX3_giveBelowDegree 13 .ishl 1 14 := ⟨by decide +kernel, rfl⟩
theorem e_X3_giveBelowDegree_14 : kk_d cX3_giveBelowDegree 14 (.iconst 1) 1 15 := ⟨by decide +kernel, rfl⟩
theorem e_X3_giveBelowDegree_15 : kk_d cX3_giveBelowDegree 15 .isub 1 16 := ⟨by decide +kernel, rfl⟩
theorem e_X3_giveBelowDegree_16 : kk_d cX3_giveBelowDegree 16 .iand 1 17 := ⟨by decide +kernel, rfl⟩
theorem e_X3_giveBelowDegree_17 : kk_d cX3_giveBelowDegree 17 (.istore_n 2) 1 18 := ⟨by decide +kernel, rfl⟩
theorem e_X3_giveBelowDegree_18 : kk_d cX3_giveBelowDegree 18 (.iload_n 2) 1 19 := ⟨by decide +kernel, rfl⟩
theorem e_X3_giveBelowDegree_19 : kk_dj cX3_giveBelowDegree 19 (.ifCond .eq 13) 3 (13) 22 32 := ⟨by decide +kernel, rfl, by decide⟩
theorem e_X3_giveBelowDegree_32 : kk_d cX3_giveBelowDegree 32 (.aload_n 0) 1 33 := ⟨by decide +kernel, rfl⟩
theorem e_X3_giveBelowDegree_33 : kk_d cX3_giveBelowDegree 33 (.aload_n 0) 1 34 := ⟨by decide +kernel, rfl⟩
theorem e_X3_giveBelowDegree_34 : kk_d cX3_giveBelowDegree 34 (.getfield 18) 3 37 := ⟨by decide +kernel, rfl⟩
theorem e_X3_giveBelowDegree_37 : kk_d cX3_giveBelowDegree 37 (.getfield 66) 3 40 := ⟨by decide +kernel, rfl⟩
theorem e_X3_giveBelowDegree_40 : kk_d cX3_giveBelowDegree 40 (.iload_n 1) 1 41 := ⟨by decide +kernel, rfl⟩
theorem e_X3_giveBelowDegree_41 : kk_d cX3_giveBelowDegree 41 .iaload 1 42 := ⟨by decide +kernel, rfl⟩
theorem e_X3_giveBelowDegree_42 : kk_d cX3_giveBelowDegree 42 (.invokevirtual 95) 3 45 := ⟨by decide +kernel, rfl⟩
theorem e_X3_giveBelowDegree_45 : kk_d cX3_giveBelowDegree 45 (.istore_n 3) 1 46 := ⟨by decide +kernel, rfl⟩
theorem e_X3_giveBelowDegree_46 : kk_d cX3_giveBelowDegree 46 (.aload_n 0) 1 47 := ⟨by decide +kernel, rfl⟩
theorem e_X3_giveBelowDegree_47 : kk_d cX3_giveBelowDegree 47 (.aload_n 0) 1 48 := ⟨by decide +kernel, rfl⟩
theorem e_X3_giveBelowDegree_48 : kk_d cX3_giveBelowDegree 48 (.getfield 18) 3 51 := ⟨by decide +kernel, rfl⟩
theorem e_X3_giveBelowDegree_51 : kk_d cX3_giveBelowDegree 51 (.getfield 72) 3 54 := ⟨by decide +kernel, rfl⟩
theorem e_X3_giveBelowDegree_54 : kk_d cX3_giveBelowDegree 54 (.iload_n 1) 1 55 := ⟨by decide +kernel, rfl⟩
theorem e_X3_giveBelowDegree_55 : kk_d cX3_giveBelowDegree 55 .iaload 1 56 := ⟨by decide +kernel, rfl⟩
theorem e_X3_giveBelowDegree_56 : kk_d cX3_giveBelowDegree 56 (.invokevirtual 95) 3 59 := ⟨by decide +kernel, rfl⟩
theorem e_X3_giveBelowDegree_59 : kk_d cX3_giveBelowDegree 59 (.istore 4) 2 61 := ⟨by decide +kernel, rfl⟩
theorem e_X3_giveBelowDegree_61 : kk_d cX3_giveBelowDegree 61 (.aload_n 0) 1 62 := ⟨by decide +kernel, rfl⟩
theorem e_X3_giveBelowDegree_62 : kk_d cX3_giveBelowDegree 62 (.aload_n 0) 1 63 := ⟨by decide +kernel, rfl⟩
theorem e_X3_giveBelowDegree_63 : kk_d cX3_giveBelowDegree 63 (.aload_n 0) 1 64 := ⟨by decide +kernel, rfl⟩
theorem e_X3_giveBelowDegree_64 : kk_d cX3_giveBelowDegree 64 (.getfield 18) 3 67 := ⟨by decide +kernel, rfl⟩
theorem e_X3_giveBelowDegree_67 : kk_d cX3_giveBelowDegree 67 (.getfield 72) 3 70 := ⟨by decide +kernel, rfl⟩
theorem e_X3_giveBelowDegree_70 : kk_d cX3_giveBelowDegree 70 (.iload_n 1) 1 71 := ⟨by decide +kernel, rfl⟩
theorem e_X3_giveBelowDegree_71 : kk_d cX3_giveBelowDegree 71 .iaload 1 72 := ⟨by decide +kernel, rfl⟩
theorem e_X3_giveBelowDegree_72 : kk_d cX3_giveBelowDegree 72 (.iload_n 3) 1 73 := ⟨by decide +kernel, rfl⟩
theorem e_X3_giveBelowDegree_73 : kk_d cX3_giveBelowDegree 73 (.iload 4) 2 75 := ⟨by decide +kernel, rfl⟩
theorem e_X3_giveBelowDegree_75 : kk_d cX3_giveBelowDegree 75 (.invokevirtual 98) 3 78 := ⟨by decide +kernel, rfl⟩
theorem e_X3_giveBelowDegree_78 : kk_d cX3_giveBelowDegree 78 (.iload_n 3) 1 79 := ⟨by decide +kernel, rfl⟩
theorem e_X3_giveBelowDegree_79 : kk_d cX3_giveBelowDegree 79 (.iload 4) 2 81 := ⟨by decide +kernel, rfl⟩
theorem e_X3_giveBelowDegree_81 : kk_d cX3_giveBelowDegree 81 (.invokevirtual 102) 3 84 := ⟨by decide +kernel, rfl⟩
theorem e_X3_giveBelowDegree_84 : kk_d cX3_giveBelowDegree 84 (.aload_n 0) 1 85 := ⟨by decide +kernel, rfl⟩
theorem e_X3_giveBelowDegree_85 : kk_d cX3_giveBelowDegree 85 (.iload_n 1) 1 86 := ⟨by decide +kernel, rfl⟩
theorem e_X3_giveBelowDegree_86 : kk_d cX3_giveBelowDegree 86 (.iload_n 3) 1 87 := ⟨by decide +kernel, rfl⟩
theorem e_X3_giveBelowDegree_87 : kk_d cX3_giveBelowDegree 87 (.invokevirtual 91) 3 90 := ⟨by decide +kernel, rfl⟩
theorem e_X3_giveBelowDegree_90 : kk_d cX3_giveBelowDegree 90 .return_ 1 91 := ⟨by decide +kernel, rfl⟩
theorem e_X3_giveBelowDegree_22 : kk_d cX3_giveBelowDegree 22 (.aload_n 0) 1 23 := ⟨by decide +kernel, rfl⟩
theorem e_X3_giveBelowDegree_23 : kk_d cX3_giveBelowDegree 23 (.iload_n 1) 1 24 := ⟨by decide +kernel, rfl⟩
theorem e_X3_giveBelowDegree_24 : kk_d cX3_giveBelowDegree 24 (.iload_n 2) 1 25 := ⟨by decide +kernel, rfl⟩
theorem e_X3_giveBelowDegree_25 : kk_d cX3_giveBelowDegree 25 (.invokestatic 75) 3 28 := ⟨by decide +kernel, rfl⟩
theorem e_X3_giveBelowDegree_28 : kk_d cX3_giveBelowDegree 28 (.invokevirtual 91) 3 31 := ⟨by decide +kernel, rfl⟩
theorem e_X3_giveBelowDegree_31 : kk_d cX3_giveBelowDegree 31 .return_ 1 32 := ⟨by decide +kernel, rfl⟩
set_option maxRecDepth 4000 in
theorem s_X3_giveBelowDegree (Z : kk_Z) (v1 : Int32) (σ : kk_St) (Q : kk_St → Prop) (h : f_X3_giveBelowDegree v1 σ Q) : kk_M Z sh_C yX3_giveBelowDegree cX3_giveBelowDegree 5 none (kk_R 5) [.ref (Z.2.1 2), .int v1] σ (kk_Qv Z sh_C Q) := by
  unfold f_X3_giveBelowDegree at h
  refine kk_met (own := RX3) (by decide) rfl (Nat.le_of_ble_eq_true rfl) rfl ?_
  refine kk_aload_n 0 rfl e_X3_giveBelowDegree_0 ?_
  refine kk_iload_n 1 rfl e_X3_giveBelowDegree_1 ?_
  refine kk_callVip (As := [.int v1]) (rest := []) e_X3_giveBelowDegree_2 ml_X3_88 ⟨_, _, _, _, rfl, rfl⟩ rfl (kk_fitR (by decide) (by decide)) (Nat.le_of_ble_eq_true rfl) rfl (s_X3_freeAtBoth Z v1 σ _ h) (fun r_1 h => ?_)
  refine kk_iconst ic_1 e_X3_giveBelowDegree_5 ?_
  refine kk_aload_n 0 rfl e_X3_giveBelowDegree_6 ?_
  refine kk_getr e_X3_giveBelowDegree_7 fl_X3_18 rfl rfl ?_
  refine kk_geti e_X3_giveBelowDegree_10 fl_X3_28 rfl rfl ?_
  refine kk_ishl e_X3_giveBelowDegree_13 ?_
  refine kk_iconst ic_1 e_X3_giveBelowDegree_14 ?_
  refine kk_isub e_X3_giveBelowDegree_15 ?_
  refine kk_iand e_X3_giveBelowDegree_16 ?_
  refine kk_topi (fun v2_2 ev2_2 => ?_)
  replace h := h v2_2 ev2_2
  refine kk_istore_n (lv' := [(2, .int v2_2), (0, .ref (Z.2.1 2)), (1, .int v1)]) e_X3_giveBelowDegree_17 rfl (by decide) rfl ?_
  refine kk_iload_n 0 rfl e_X3_giveBelowDegree_18 ?_
  refine kk_if_eq e_X3_giveBelowDegree_19 (fun c_10 => ?_) (fun c_10 => ?_)
  · replace h := h.1 c_10
    refine kk_aload_n 1 rfl e_X3_giveBelowDegree_32 ?_
    refine kk_aload_n 1 rfl e_X3_giveBelowDegree_33 ?_
    refine kk_getr e_X3_giveBelowDegree_34 fl_X3_18 rfl rfl ?_
    refine kk_getr e_X3_giveBelowDegree_37 fl_X3_66 rfl rfl ?_
    refine kk_iload_n 2 rfl e_X3_giveBelowDegree_40 ?_
    refine kk_iald e_X3_giveBelowDegree_41 rfl h.1 ?_
    replace h := h.2
    refine kk_callVip (As := [.int (kk_rd σ 11 v1)]) (rest := []) e_X3_giveBelowDegree_42 ml_X3_95 ⟨_, _, _, _, rfl, rfl⟩ rfl (kk_fitR (by decide) (by decide)) (Nat.le_of_ble_eq_true rfl) rfl (s_X3_leastFreeAt Z (kk_rd σ 11 v1) σ _ h) (fun r_3 h => ?_)
    refine kk_istore_n (lv' := [(3, .int r_3), (2, .int v2_2), (0, .ref (Z.2.1 2)), (1, .int v1)]) e_X3_giveBelowDegree_45 rfl (by decide) rfl ?_
    refine kk_aload_n 2 rfl e_X3_giveBelowDegree_46 ?_
    refine kk_aload_n 2 rfl e_X3_giveBelowDegree_47 ?_
    refine kk_getr e_X3_giveBelowDegree_48 fl_X3_18 rfl rfl ?_
    refine kk_getr e_X3_giveBelowDegree_51 fl_X3_72 rfl rfl ?_
    refine kk_iload_n 3 rfl e_X3_giveBelowDegree_54 ?_
    refine kk_iald e_X3_giveBelowDegree_55 rfl h.1 ?_
    replace h := h.2
    refine kk_callVip (As := [.int (kk_rd σ 12 v1)]) (rest := []) e_X3_giveBelowDegree_56 ml_X3_95 ⟨_, _, _, _, rfl, rfl⟩ rfl (kk_fitR (by decide) (by decide)) (Nat.le_of_ble_eq_true rfl) rfl (s_X3_leastFreeAt Z (kk_rd σ 12 v1) σ _ h) (fun r_4 h => ?_)
    refine kk_istore (lv' := [(4, .int r_4), (3, .int r_3), (2, .int v2_2), (0, .ref (Z.2.1 2)), (1, .int v1)]) e_X3_giveBelowDegree_59 (by decide) rfl ?_
    refine kk_aload_n 3 rfl e_X3_giveBelowDegree_61 ?_
    refine kk_aload_n 3 rfl e_X3_giveBelowDegree_62 ?_
    refine kk_aload_n 3 rfl e_X3_giveBelowDegree_63 ?_
    refine kk_getr e_X3_giveBelowDegree_64 fl_X3_18 rfl rfl ?_
    refine kk_getr e_X3_giveBelowDegree_67 fl_X3_72 rfl rfl ?_
    refine kk_iload_n 4 rfl e_X3_giveBelowDegree_70 ?_
    refine kk_iald e_X3_giveBelowDegree_71 rfl h.1 ?_
    replace h := h.2
    refine kk_iload_n 1 rfl e_X3_giveBelowDegree_72 ?_
    refine kk_iload 0 rfl e_X3_giveBelowDegree_73 ?_
    refine kk_callVip (As := [.int (kk_rd σ 12 v1), .int r_3, .int r_4]) (rest := [.ref (Z.2.1 2)]) e_X3_giveBelowDegree_75 ml_X3_98 ⟨_, _, _, _, rfl, rfl⟩ rfl (kk_fitR (by decide) (by decide)) (Nat.le_of_ble_eq_true rfl) rfl (s_X3_chainOf Z (kk_rd σ 12 v1) r_3 r_4 σ _ h) (fun r_5 h => ?_)
    refine kk_iload_n 1 rfl e_X3_giveBelowDegree_78 ?_
    refine kk_iload 0 rfl e_X3_giveBelowDegree_79 ?_
    refine kk_callVv (As := [.int r_5, .int r_3, .int r_4]) (rest := []) e_X3_giveBelowDegree_81 ml_X3_102 ⟨_, _, _, _, rfl, rfl⟩ rfl (kk_fitR (by decide) (by decide)) (Nat.le_of_ble_eq_true rfl) rfl (s_X3_flip Z r_5 r_3 r_4 σ _ h) (fun σ_6 h => ?_)
    refine kk_aload_n 3 rfl e_X3_giveBelowDegree_84 ?_
    refine kk_iload_n 4 rfl e_X3_giveBelowDegree_85 ?_
    refine kk_iload_n 1 rfl e_X3_giveBelowDegree_86 ?_
    refine kk_callVv (As := [.int v1, .int r_3]) (rest := []) e_X3_giveBelowDegree_87 ml_X3_91 ⟨_, _, _, _, rfl, rfl⟩ rfl (kk_fitR (by decide) (by decide)) (Nat.le_of_ble_eq_true rfl) rfl (s_X3_give Z v1 r_3 σ_6 _ h) (fun σ_7 h => ?_)
    exact kk_vret e_X3_giveBelowDegree_90 h
  · replace h := h.2 c_10
    refine kk_aload_n 1 rfl e_X3_giveBelowDegree_22 ?_
    refine kk_iload_n 2 rfl e_X3_giveBelowDegree_23 ?_
    refine kk_iload_n 0 rfl e_X3_giveBelowDegree_24 ?_
    refine kk_callSip (As := [.int v2_2]) (rest := [.int v1, .ref (Z.2.1 2)]) e_X3_giveBelowDegree_25 ml_X3_75 rfl (kk_fitR (by decide) (by decide)) (Nat.le_of_ble_eq_true rfl) rfl (s_J6_numberOfTrailingZeros_0f7a4 Z v2_2 σ _ h) (fun r_8 h => ?_)
    refine kk_callVv (As := [.int v1, .int r_8]) (rest := []) e_X3_giveBelowDegree_28 ml_X3_91 ⟨_, _, _, _, rfl, rfl⟩ rfl (kk_fitR (by decide) (by decide)) (Nat.le_of_ble_eq_true rfl) rfl (s_X3_give Z v1 r_8 σ _ h) (fun σ_9 h => ?_)
    exact kk_vret e_X3_giveBelowDegree_31 h
theorem e_X6_neighbours_0 : kk_d cX6_neighbours 0 (.iconst 0) 1 1 := ⟨by decide +kernel, rfl⟩
theorem e_X6_neighbours_1 : kk_d cX6_neighbours 1 (.istore_n 2) 1 2 := ⟨by decide +kernel, rfl⟩
theorem e_X6_neighbours_2 : kk_d cX6_neighbours 2 (.iconst 0) 1 3 := ⟨by decide +kernel, rfl⟩
theorem e_X6_neighbours_3 : kk_d cX6_neighbours 3 (.istore_n 3) 1 4 := ⟨by decide +kernel, rfl⟩
theorem e_X6_neighbours_4 : kk_d cX6_neighbours 4 (.iload_n 3) 1 5 := ⟨by decide +kernel, rfl⟩
theorem e_X6_neighbours_5 : kk_d cX6_neighbours 5 (.aload_n 0) 1 6 := ⟨by decide +kernel, rfl⟩
theorem e_X6_neighbours_6 : kk_d cX6_neighbours 6 (.getfield 27) 3 9 := ⟨by decide +kernel, rfl⟩
theorem e_X6_neighbours_9 : kk_dj cX6_neighbours 9 (.if_icmp .ge 26) 3 (26) 12 35 := ⟨by decide +kernel, rfl, by decide⟩
theorem e_X6_neighbours_35 : kk_d cX6_neighbours 35 (.iload_n 2) 1 36 := ⟨by decide +kernel, rfl⟩
theorem e_X6_neighbours_36 : kk_d cX6_neighbours 36 .ireturn 1 37 := ⟨by decide +kernel, rfl⟩
theorem e_X6_neighbours_12 : kk_d cX6_neighbours 12 (.iload_n 1) 1 13 := ⟨by decide +kernel, rfl⟩
theorem e_X6_neighbours_13 : kk_d cX6_neighbours 13 (.iload_n 3) 1 14 := ⟨by decide +kernel, rfl⟩
theorem e_X6_neighbours_14 : kk_d cX6_neighbours 14 .ishr 1 15 := ⟨by decide +kernel, rfl⟩
theorem e_X6_neighbours_15 : kk_d cX6_neighbours 15 (.iconst 1) 1 16 := ⟨by decide +kernel, rfl⟩
theorem e_X6_neighbours_16 : kk_d cX6_neighbours 16 .iand 1 17 := ⟨by decide +kernel, rfl⟩
theorem e_X6_neighbours_17 : kk_dj cX6_neighbours 17 (.ifCond .eq 12) 3 (12) 20 29 := ⟨by decide +kernel, rfl, by decide⟩
theorem e_X6_neighbours_29 : kk_d cX6_neighbours 29 (.iinc 3 1) 3 32 := ⟨by decide +kernel, rfl⟩
theorem e_X6_neighbours_32 : kk_dj cX6_neighbours 32 (.goto (-28)) 3 (-28) 35 4 := ⟨by decide +kernel, rfl, by decide⟩
theorem e_X6_neighbours_20 : kk_d cX6_neighbours 20 (.iload_n 2) 1 21 := ⟨by decide +kernel, rfl⟩
theorem e_X6_neighbours_21 : kk_d cX6_neighbours 21 (.aload_n 0) 1 22 := ⟨by decide +kernel, rfl⟩
theorem e_X6_neighbours_22 : kk_d cX6_neighbours 22 (.getfield 24) 3 25 := ⟨by decide +kernel, rfl⟩
theorem e_X6_neighbours_25 : kk_d cX6_neighbours 25 (.iload_n 3) 1 26 := ⟨by decide +kernel, rfl⟩
theorem e_X6_neighbours_26 : kk_d cX6_neighbours 26 .iaload 1 27 := ⟨by decide +kernel, rfl⟩
theorem e_X6_neighbours_27 : kk_d cX6_neighbours 27 .ior 1 28 := ⟨by decide +kernel, rfl⟩
theorem e_X6_neighbours_28 : kk_d cX6_neighbours 28 (.istore_n 2) 1 29 := ⟨by decide +kernel, rfl⟩
set_option maxRecDepth 4000 in
theorem s_X6_neighbours (Z : kk_Z) (v1 : Int32) (σ : kk_St) (Q : Int32 → Prop) (h : f_X6_neighbours v1 σ Q) : kk_M Z sh_C yX6_neighbours cX6_neighbours 4 (some .int) (kk_R 2) [.ref (Z.2.1 1), .int v1] σ (kk_Qi Z sh_C (fun r σ' => σ' = σ ∧ Q r)) := by
  unfold f_X6_neighbours at h
  refine kk_met (own := RX6) (by decide) rfl (Nat.le_of_ble_eq_true rfl) rfl ?_
  refine kk_iconst ic_0 e_X6_neighbours_0 ?_
  refine kk_istore_n (lv' := [(2, .int (0 : Int32)), (0, .ref (Z.2.1 1)), (1, .int v1)]) e_X6_neighbours_1 rfl (by decide) rfl ?_
  refine kk_iconst ic_0 e_X6_neighbours_2 ?_
  refine kk_istore_n (lv' := [(3, .int (0 : Int32)), (2, .int (0 : Int32)), (0, .ref (Z.2.1 1)), (1, .int v1)]) e_X6_neighbours_3 rfl (by decide) rfl ?_
  refine kk_sub [2, 3, 1, 0] rfl ?_
  refine kk_lpW2 (P := fun (v2_1 : Int32) (v3_2 : Int32) => KK Z sh_C RX6 cX6_neighbours 4 (some .int) (kk_R 2) (kk_Qi Z sh_C (fun r σ' => σ' = σ ∧ Q r)) 4 [(0, .ref (Z.2.1 1)), (1, .int v1), (2, .int v2_1), (3, .int v3_2)] [] σ) ?_ h
  intro rec_3 hrec_3 v2_1 v3_2 h
  refine kk_iload_n 3 rfl e_X6_neighbours_4 ?_
  refine kk_aload_n 0 rfl e_X6_neighbours_5 ?_
  refine kk_geti e_X6_neighbours_6 fl_X6_27 rfl rfl ?_
  refine kk_icmp_ge e_X6_neighbours_9 (fun c_8 => ?_) (fun c_8 => ?_)
  · replace h := h.1 c_8
    refine kk_iload_n 2 rfl e_X6_neighbours_35 ?_
    exact kk_iret e_X6_neighbours_36 ⟨rfl, h⟩
  · replace h := h.2 c_8
    refine kk_iload_n 1 rfl e_X6_neighbours_12 ?_
    refine kk_iload_n 3 rfl e_X6_neighbours_13 ?_
    refine kk_ishr e_X6_neighbours_14 ?_
    refine kk_iconst ic_1 e_X6_neighbours_15 ?_
    refine kk_iand e_X6_neighbours_16 ?_
    refine kk_jW1 (P := fun (v2_4 : Int32) => KK Z sh_C RX6 cX6_neighbours 4 (some .int) (kk_R 2) (kk_Qi Z sh_C (fun r σ' => σ' = σ ∧ Q r)) 29 [(0, .ref (Z.2.1 1)), (1, .int v1), (2, .int v2_4), (3, .int v3_2)] [] σ) h ?_ ?_
    · intro v2_4 h
      refine kk_iinc (lv' := [(3, .int (v3_2 + (1 : Int32))), (0, .ref (Z.2.1 1)), (1, .int v1), (2, .int v2_4)]) e_X6_neighbours_29 (j := 3) rfl (ii_1 v3_2) (by decide) rfl ?_
      refine kk_goto e_X6_neighbours_32 ?_
      exact kk_sub [1, 2, 3, 0] rfl (hrec_3 v2_4 (v3_2 + (1 : Int32)) h)
    · intro J_5 hJ_5 h
      refine kk_if_eq e_X6_neighbours_17 (fun c_7 => ?_) (fun c_7 => ?_)
      · replace h := h.1 c_7
        exact kk_sub [0, 1, 2, 3] rfl (hJ_5 v2_1 h)
      · replace h := h.2 c_7
        refine kk_iload_n 2 rfl e_X6_neighbours_20 ?_
        refine kk_aload_n 0 rfl e_X6_neighbours_21 ?_
        refine kk_getr e_X6_neighbours_22 fl_X6_24 rfl rfl ?_
        refine kk_iload_n 3 rfl e_X6_neighbours_25 ?_
        refine kk_iald e_X6_neighbours_26 rfl h.1 ?_
        replace h := h.2
        refine kk_ior e_X6_neighbours_27 ?_
        refine kk_topi (fun v2_6 ev2_6 => ?_)
        replace h := h v2_6 ev2_6
        refine kk_istore_n (lv' := [(2, .int v2_6), (0, .ref (Z.2.1 1)), (1, .int v1), (3, .int v3_2)]) e_X6_neighbours_28 rfl (by decide) rfl ?_
        exact kk_sub [1, 2, 0, 3] rfl (hJ_5 v2_6 h)
theorem e_X6_onePart_0 : kk_d cX6_onePart 0 (.iconst 0) 1 1 := ⟨by decide +kernel, rfl⟩
theorem e_X6_onePart_1 : kk_d cX6_onePart 1 (.istore_n 1) 1 2 := ⟨by decide +kernel, rfl⟩
theorem e_X6_onePart_2 : kk_d cX6_onePart 2 (.iconst 0) 1 3 := ⟨by decide +kernel, rfl⟩
theorem e_X6_onePart_3 : kk_d cX6_onePart 3 (.istore_n 2) 1 4 := ⟨by decide +kernel, rfl⟩
theorem e_X6_onePart_4 : kk_d cX6_onePart 4 (.iconst 0) 1 5 := ⟨by decide +kernel, rfl⟩
theorem e_X6_onePart_5 : kk_d cX6_onePart 5 (.istore_n 3) 1 6 := ⟨by decide +kernel, rfl⟩
theorem e_X6_onePart_6 : kk_d cX6_onePart 6 (.iload_n 3) 1 7 := ⟨by decide +kernel, rfl⟩
theorem e_X6_onePart_7 : kk_d cX6_onePart 7 (.aload_n 0) 1 8 := ⟨by decide +kernel, rfl⟩
theorem e_X6_onePart_8 : kk_d cX6_onePart 8 (.getfield 27) 3 11 := ⟨by decide +kernel, rfl⟩
theorem e_X6_onePart_11 : kk_dj cX6_onePart 11 (.if_icmp .ge 88) 3 (88) 14 99 := ⟨by decide +kernel, rfl, by decide⟩
theorem e_X6_onePart_99 : kk_d cX6_onePart 99 (.iload_n 2) 1 100 := ⟨by decide +kernel, rfl⟩
theorem e_X6_onePart_100 : kk_d cX6_onePart 100 .ireturn 1 101 := ⟨by decide +kernel, rfl⟩
theorem e_X6_onePart_14 : kk_d cX6_onePart 14 (.iload_n 1) 1 15 := ⟨by decide +kernel, rfl⟩
theorem e_X6_onePart_15 : kk_d cX6_onePart 15 (.iload_n 3) 1 16 := ⟨by decide +kernel, rfl⟩
theorem e_X6_onePart_16 : kk_d cX6_onePart 16 .ishr 1 17 := ⟨by decide +kernel, rfl⟩
theorem e_X6_onePart_17 : kk_d cX6_onePart 17 (.iconst 1) 1 18 := ⟨by decide +kernel, rfl⟩
theorem e_X6_onePart_18 : kk_d cX6_onePart 18 .iand 1 19 := ⟨by decide +kernel, rfl⟩
theorem e_X6_onePart_19 : kk_dj cX6_onePart 19 (.ifCond .ne 74) 3 (74) 22 93 := ⟨by decide +kernel, rfl, by decide⟩
theorem e_X6_onePart_93 : kk_d cX6_onePart 93 (.iinc 3 1) 3 96 := ⟨by decide +kernel, rfl⟩
theorem e_X6_onePart_96 : kk_dj cX6_onePart 96 (.goto (-90)) 3 (-90) 99 6 := ⟨by decide +kernel, rfl, by decide⟩
theorem e_X6_onePart_22 : kk_d cX6_onePart 22 (.iconst 1) 1 23 := ⟨by decide +kernel, rfl⟩
theorem e_X6_onePart_23 : kk_d cX6_onePart 23 (.iload_n 3) 1 24 := ⟨by decide +kernel, rfl⟩
theorem e_X6_onePart_24 : kk_d cX6_onePart 24 .ishl 1 25 := ⟨by decide +kernel, rfl⟩
theorem e_X6_onePart_25 : kk_d cX6_onePart 25 (.istore 4) 2 27 := ⟨by decide +kernel, rfl⟩
theorem e_X6_onePart_27 : kk_d cX6_onePart 27 (.iconst 0) 1 28 := ⟨by decide +kernel, rfl⟩
theorem e_X6_onePart_28 : kk_d cX6_onePart 28 (.istore 5) 2 30 := ⟨by decide +kernel, rfl⟩
theorem e_X6_onePart_30 : kk_d cX6_onePart 30 (.iconst 0) 1 31 := ⟨by decide +kernel, rfl⟩
theorem e_X6_onePart_31 : kk_d cX6_onePart 31 (.istore 6) 2 33 := ⟨by decide +kernel, rfl⟩
theorem e_X6_onePart_33 : kk_d cX6_onePart 33 (.iload 6) 2 35 := ⟨by decide +kernel, rfl⟩
theorem e_X6_onePart_35 : kk_d cX6_onePart 35 (.aload_n 0) 1 36 := ⟨by decide +kernel, rfl⟩
theorem e_X6_onePart_36 : kk_d cX6_onePart 36 (.getfield 27) 3 39 := ⟨by decide +kernel, rfl⟩
theorem e_X6_onePart_39 : kk_dj cX6_onePart 39 (.if_icmp .ge 31) 3 (31) 42 70 := ⟨by decide +kernel, rfl, by decide⟩
theorem e_X6_onePart_70 : kk_d cX6_onePart 70 (.iload 4) 2 72 := ⟨by decide +kernel, rfl⟩
theorem e_X6_onePart_72 : kk_d cX6_onePart 72 (.iload 5) 2 74 := ⟨by decide +kernel, rfl⟩
theorem e_X6_onePart_74 : kk_d cX6_onePart 74 .iand 1 75 := ⟨by decide +kernel, rfl⟩
theorem e_X6_onePart_75 : kk_dj cX6_onePart 75 (.ifCond .eq 5) 3 (5) 78 80 := ⟨by decide +kernel, rfl, by decide⟩
theorem e_X6_onePart_80 : kk_d cX6_onePart 80 (.iload_n 1) 1 81 := ⟨by decide +kernel, rfl⟩
theorem e_X6_onePart_81 : kk_d cX6_onePart 81 (.iload 4) 2 83 := ⟨by decide +kernel, rfl⟩
theorem e_X6_onePart_83 : kk_d cX6_onePart 83 (.iload 5) 2 85 := ⟨by decide +kernel, rfl⟩
theorem e_X6_onePart_85 : kk_d cX6_onePart 85 .ior 1 86 := ⟨by decide +kernel, rfl⟩
theorem e_X6_onePart_86 : kk_d cX6_onePart 86 .ior 1 87 := ⟨by decide +kernel, rfl⟩
theorem e_X6_onePart_87 : kk_d cX6_onePart 87 (.istore_n 1) 1 88 := ⟨by decide +kernel, rfl⟩
theorem e_X6_onePart_88 : kk_d cX6_onePart 88 (.iload_n 2) 1 89 := ⟨by decide +kernel, rfl⟩
theorem e_X6_onePart_89 : kk_d cX6_onePart 89 (.iload 4) 2 91 := ⟨by decide +kernel, rfl⟩
theorem e_X6_onePart_91 : kk_d cX6_onePart 91 .ior 1 92 := ⟨by decide +kernel, rfl⟩
theorem e_X6_onePart_92 : kk_d cX6_onePart 92 (.istore_n 2) 1 93 := ⟨by decide +kernel, rfl⟩
theorem e_X6_onePart_78 : kk_d cX6_onePart 78 (.iconst 0) 1 79 := ⟨by decide +kernel, rfl⟩
theorem e_X6_onePart_79 : kk_d cX6_onePart 79 .ireturn 1 80 := ⟨by decide +kernel, rfl⟩
theorem e_X6_onePart_42 : kk_d cX6_onePart 42 (.iload 5) 2 44 := ⟨by decide +kernel, rfl⟩
theorem e_X6_onePart_44 : kk_d cX6_onePart 44 (.aload_n 0) 1 45 := ⟨by decide +kernel, rfl⟩
theorem e_X6_onePart_45 : kk_d cX6_onePart 45 (.iload 4) 2 47 := ⟨by decide +kernel, rfl⟩
theorem e_X6_onePart_47 : kk_d cX6_onePart 47 (.invokevirtual 74) 3 50 := ⟨by decide +kernel, rfl⟩
theorem e_X6_onePart_50 : kk_d cX6_onePart 50 .ior 1 51 := ⟨by decide +kernel, rfl⟩
theorem e_X6_onePart_51 : kk_d cX6_onePart 51 (.istore 5) 2 53 := ⟨by decide +kernel, rfl⟩
theorem e_X6_onePart_53 : kk_d cX6_onePart 53 (.iload 4) 2 55 := ⟨by decide +kernel, rfl⟩
theorem e_X6_onePart_55 : kk_d cX6_onePart 55 (.aload_n 0) 1 56 := ⟨by decide +kernel, rfl⟩
theorem e_X6_onePart_56 : kk_d cX6_onePart 56 (.iload 5) 2 58 := ⟨by decide +kernel, rfl⟩
theorem e_X6_onePart_58 : kk_d cX6_onePart 58 (.invokevirtual 74) 3 61 := ⟨by decide +kernel, rfl⟩
theorem e_X6_onePart_61 : kk_d cX6_onePart 61 .ior 1 62 := ⟨by decide +kernel, rfl⟩
theorem e_X6_onePart_62 : kk_d cX6_onePart 62 (.istore 4) 2 64 := ⟨by decide +kernel, rfl⟩
theorem e_X6_onePart_64 : kk_d cX6_onePart 64 (.iinc 6 1) 3 67 := ⟨by decide +kernel, rfl⟩
theorem e_X6_onePart_67 : kk_dj cX6_onePart 67 (.goto (-34)) 3 (-34) 70 33 := ⟨by decide +kernel, rfl, by decide⟩
set_option maxRecDepth 4000 in
theorem s_X6_onePart (Z : kk_Z) (σ : kk_St) (Q : Int32 → Prop) (h : f_X6_onePart σ Q) : kk_M Z sh_C yX6_onePart cX6_onePart 7 (some .int) (kk_R 3) [.ref (Z.2.1 1)] σ (kk_Qi Z sh_C (fun r σ' => σ' = σ ∧ Q r)) := by
  unfold f_X6_onePart at h
  refine kk_met (own := RX6) (by decide) rfl (Nat.le_of_ble_eq_true rfl) rfl ?_
  refine kk_iconst ic_0 e_X6_onePart_0 ?_
  refine kk_istore_n (lv' := [(1, .int (0 : Int32)), (0, .ref (Z.2.1 1))]) e_X6_onePart_1 rfl (by decide) rfl ?_
  refine kk_iconst ic_0 e_X6_onePart_2 ?_
  refine kk_istore_n (lv' := [(2, .int (0 : Int32)), (1, .int (0 : Int32)), (0, .ref (Z.2.1 1))]) e_X6_onePart_3 rfl (by decide) rfl ?_
  refine kk_iconst ic_0 e_X6_onePart_4 ?_
  refine kk_istore_n (lv' := [(3, .int (0 : Int32)), (2, .int (0 : Int32)), (1, .int (0 : Int32)), (0, .ref (Z.2.1 1))]) e_X6_onePart_5 rfl (by decide) rfl ?_
  refine kk_sub [3, 2, 1, 0] rfl ?_
  refine kk_lpW3 (P := fun (v1_1 : Int32) (v2_2 : Int32) (v3_3 : Int32) => KK Z sh_C RX6 cX6_onePart 7 (some .int) (kk_R 3) (kk_Qi Z sh_C (fun r σ' => σ' = σ ∧ Q r)) 6 [(0, .ref (Z.2.1 1)), (1, .int v1_1), (2, .int v2_2), (3, .int v3_3)] [] σ) ?_ h
  intro rec_4 hrec_4 v1_1 v2_2 v3_3 h
  refine kk_iload_n 3 rfl e_X6_onePart_6 ?_
  refine kk_aload_n 0 rfl e_X6_onePart_7 ?_
  refine kk_geti e_X6_onePart_8 fl_X6_27 rfl rfl ?_
  refine kk_icmp_ge e_X6_onePart_11 (fun c_19 => ?_) (fun c_19 => ?_)
  · replace h := h.1 c_19
    refine kk_iload_n 2 rfl e_X6_onePart_99 ?_
    exact kk_iret e_X6_onePart_100 ⟨rfl, h⟩
  · replace h := h.2 c_19
    refine kk_iload_n 1 rfl e_X6_onePart_14 ?_
    refine kk_iload_n 3 rfl e_X6_onePart_15 ?_
    refine kk_ishr e_X6_onePart_16 ?_
    refine kk_iconst ic_1 e_X6_onePart_17 ?_
    refine kk_iand e_X6_onePart_18 ?_
    refine kk_jW2 (P := fun (v1_5 : Int32) (v2_6 : Int32) => KK Z sh_C RX6 cX6_onePart 7 (some .int) (kk_R 3) (kk_Qi Z sh_C (fun r σ' => σ' = σ ∧ Q r)) 93 [(0, .ref (Z.2.1 1)), (1, .int v1_5), (2, .int v2_6), (3, .int v3_3)] [] σ) h ?_ ?_
    · intro v1_5 v2_6 h
      refine kk_iinc (lv' := [(3, .int (v3_3 + (1 : Int32))), (0, .ref (Z.2.1 1)), (1, .int v1_5), (2, .int v2_6)]) e_X6_onePart_93 (j := 3) rfl (ii_1 v3_3) (by decide) rfl ?_
      refine kk_goto e_X6_onePart_96 ?_
      exact kk_sub [1, 2, 3, 0] rfl (hrec_4 v1_5 v2_6 (v3_3 + (1 : Int32)) h)
    · intro J_7 hJ_7 h
      refine kk_if_ne e_X6_onePart_19 (fun c_18 => ?_) (fun c_18 => ?_)
      · replace h := h.1 c_18
        exact kk_sub [0, 1, 2, 3] rfl (hJ_7 v1_1 v2_2 h)
      · replace h := h.2 c_18
        refine kk_iconst ic_1 e_X6_onePart_22 ?_
        refine kk_iload_n 3 rfl e_X6_onePart_23 ?_
        refine kk_ishl e_X6_onePart_24 ?_
        refine kk_topi (fun v4_8 ev4_8 => ?_)
        replace h := h v4_8 ev4_8
        refine kk_istore (lv' := [(4, .int v4_8), (0, .ref (Z.2.1 1)), (1, .int v1_1), (2, .int v2_2), (3, .int v3_3)]) e_X6_onePart_25 (by decide) rfl ?_
        refine kk_iconst ic_0 e_X6_onePart_27 ?_
        refine kk_istore (lv' := [(5, .int (0 : Int32)), (4, .int v4_8), (0, .ref (Z.2.1 1)), (1, .int v1_1), (2, .int v2_2), (3, .int v3_3)]) e_X6_onePart_28 (by decide) rfl ?_
        refine kk_iconst ic_0 e_X6_onePart_30 ?_
        refine kk_istore (lv' := [(6, .int (0 : Int32)), (5, .int (0 : Int32)), (4, .int v4_8), (0, .ref (Z.2.1 1)), (1, .int v1_1), (2, .int v2_2), (3, .int v3_3)]) e_X6_onePart_31 (by decide) rfl ?_
        refine kk_sub [3, 4, 5, 6, 2, 1, 0] rfl ?_
        refine kk_lpW3 (P := fun (v4_9 : Int32) (v5_10 : Int32) (v6_11 : Int32) => KK Z sh_C RX6 cX6_onePart 7 (some .int) (kk_R 3) (kk_Qi Z sh_C (fun r σ' => σ' = σ ∧ Q r)) 33 [(0, .ref (Z.2.1 1)), (1, .int v1_1), (2, .int v2_2), (3, .int v3_3), (4, .int v4_9), (5, .int v5_10), (6, .int v6_11)] [] σ) ?_ h
        intro rec_12 hrec_12 v4_9 v5_10 v6_11 h
        refine kk_iload 6 rfl e_X6_onePart_33 ?_
        refine kk_aload_n 0 rfl e_X6_onePart_35 ?_
        refine kk_geti e_X6_onePart_36 fl_X6_27 rfl rfl ?_
        refine kk_icmp_ge e_X6_onePart_39 (fun c_17 => ?_) (fun c_17 => ?_)
        · replace h := h.1 c_17
          refine kk_iload 4 rfl e_X6_onePart_70 ?_
          refine kk_iload 5 rfl e_X6_onePart_72 ?_
          refine kk_iand e_X6_onePart_74 ?_
          refine kk_if_eq e_X6_onePart_75 (fun c_14 => ?_) (fun c_14 => ?_)
          · replace h := h.1 c_14
            refine kk_iload_n 1 rfl e_X6_onePart_80 ?_
            refine kk_iload 4 rfl e_X6_onePart_81 ?_
            refine kk_iload 5 rfl e_X6_onePart_83 ?_
            refine kk_ior e_X6_onePart_85 ?_
            refine kk_ior e_X6_onePart_86 ?_
            refine kk_topi (fun v1_13 ev1_13 => ?_)
            replace h := h v1_13 ev1_13
            refine kk_istore_n (lv' := [(1, .int v1_13), (0, .ref (Z.2.1 1)), (2, .int v2_2), (3, .int v3_3), (4, .int v4_9), (5, .int v5_10), (6, .int v6_11)]) e_X6_onePart_87 rfl (by decide) rfl ?_
            refine kk_iload_n 2 rfl e_X6_onePart_88 ?_
            refine kk_iload 4 rfl e_X6_onePart_89 ?_
            refine kk_ior e_X6_onePart_91 ?_
            refine kk_istore_n (lv' := [(2, .int (v2_2 ||| v4_9)), (1, .int v1_13), (0, .ref (Z.2.1 1)), (3, .int v3_3), (4, .int v4_9), (5, .int v5_10), (6, .int v6_11)]) e_X6_onePart_92 rfl (by decide) rfl ?_
            exact kk_sub [2, 1, 0, 3] rfl (hJ_7 v1_13 (v2_2 ||| v4_9) h)
          · replace h := h.2 c_14
            refine kk_iconst ic_0 e_X6_onePart_78 ?_
            exact kk_iret e_X6_onePart_79 ⟨rfl, h⟩
        · replace h := h.2 c_17
          refine kk_iload 5 rfl e_X6_onePart_42 ?_
          refine kk_aload_n 0 rfl e_X6_onePart_44 ?_
          refine kk_iload 4 rfl e_X6_onePart_45 ?_
          refine kk_callVip (As := [.int v4_9]) (rest := [.int v5_10]) e_X6_onePart_47 ml_X6_74 ⟨_, _, _, _, rfl, rfl⟩ rfl (kk_fitR (by decide) (by decide)) (Nat.le_of_ble_eq_true rfl) rfl (s_X6_neighbours Z v4_9 σ _ h) (fun r_15 h => ?_)
          refine kk_ior e_X6_onePart_50 ?_
          refine kk_istore (lv' := [(5, .int (v5_10 ||| r_15)), (0, .ref (Z.2.1 1)), (1, .int v1_1), (2, .int v2_2), (3, .int v3_3), (4, .int v4_9), (6, .int v6_11)]) e_X6_onePart_51 (by decide) rfl ?_
          refine kk_iload 5 rfl e_X6_onePart_53 ?_
          refine kk_aload_n 1 rfl e_X6_onePart_55 ?_
          refine kk_iload 0 rfl e_X6_onePart_56 ?_
          refine kk_callVip (As := [.int (v5_10 ||| r_15)]) (rest := [.int v4_9]) e_X6_onePart_58 ml_X6_74 ⟨_, _, _, _, rfl, rfl⟩ rfl (kk_fitR (by decide) (by decide)) (Nat.le_of_ble_eq_true rfl) rfl (s_X6_neighbours Z (v5_10 ||| r_15) σ _ h) (fun r_16 h => ?_)
          refine kk_ior e_X6_onePart_61 ?_
          refine kk_istore (lv' := [(4, .int (v4_9 ||| r_16)), (5, .int (v5_10 ||| r_15)), (0, .ref (Z.2.1 1)), (1, .int v1_1), (2, .int v2_2), (3, .int v3_3), (6, .int v6_11)]) e_X6_onePart_62 (by decide) rfl ?_
          refine kk_iinc (lv' := [(6, .int (v6_11 + (1 : Int32))), (4, .int (v4_9 ||| r_16)), (5, .int (v5_10 ||| r_15)), (0, .ref (Z.2.1 1)), (1, .int v1_1), (2, .int v2_2), (3, .int v3_3)]) e_X6_onePart_64 (j := 6) rfl (ii_1 v6_11) (by decide) rfl ?_
          refine kk_goto e_X6_onePart_67 ?_
          exact kk_sub [3, 4, 5, 6, 1, 2, 0] rfl (hrec_12 (v4_9 ||| r_16) (v5_10 ||| r_15) (v6_11 + (1 : Int32)) h)
theorem e_X10_pair_0 : kk_d cX10_pair 0 (.aload_n 0) 1 1 := ⟨by decide +kernel, rfl⟩
theorem e_X10_pair_1 : kk_d cX10_pair 1 (.getfield 10) 3 4 := ⟨by decide +kernel, rfl⟩
theorem e_X10_pair_4 : kk_d cX10_pair 4 (.invokevirtual 166) 3 7 := ⟨by decide +kernel, rfl⟩
theorem e_X10_pair_7 : kk_dj cX10_pair 7 (.ifCond .ne 6) 3 (6) 10 13 := ⟨by decide +kernel, rfl, by decide⟩
theorem e_X10_pair_13 : kk_d cX10_pair 13 (.aload_n 0) 1 14 := ⟨by decide +kernel, rfl⟩
theorem e_X10_pair_14 : kk_d cX10_pair 14 (.getfield 21) 3 17 := ⟨by decide +kernel, rfl⟩
theorem e_X10_pair_17 : kk_d cX10_pair 17 (.invokevirtual 100) 3 20 := ⟨by decide +kernel, rfl⟩
theorem e_X10_pair_20 : kk_d cX10_pair 20 (.iconst 0) 1 21 := ⟨by decide +kernel, rfl⟩
theorem e_X10_pair_21 : kk_d cX10_pair 21 (.istore_n 1) 1 22 := ⟨by decide +kernel, rfl⟩
theorem e_X10_pair_22 : kk_d cX10_pair 22 (.iload_n 1) 1 23 := ⟨by decide +kernel, rfl⟩
theorem e_X10_pair_23 : kk_d cX10_pair 23 (.aload_n 0) 1 24 := ⟨by decide +kernel, rfl⟩
theorem e_X10_pair_24 : kk_d cX10_pair 24 (.getfield 10) 3 27 := ⟨by decide +kernel, rfl⟩
theorem e_X10_pair_27 : kk_d cX10_pair 27 (.getfield 112) 3 30 := ⟨by decide +kernel, rfl⟩
theorem e_X10_pair_30 : kk_dj cX10_pair 30 (.if_icmp .ge 17) 3 (17) 33 47 := ⟨by decide +kernel, rfl, by decide⟩
theorem e_X10_pair_47 : kk_d cX10_pair 47 (.aload_n 0) 1 48 := ⟨by decide +kernel, rfl⟩
theorem e_X10_pair_48 : kk_d cX10_pair 48 (.getfield 10) 3 51 := ⟨by decide +kernel, rfl⟩
theorem e_X10_pair_51 : kk_d cX10_pair 51 (.getfield 112) 3 54 := ⟨by decide +kernel, rfl⟩
theorem e_X10_pair_54 : kk_d cX10_pair 54 .ireturn 1 55 := ⟨by decide +kernel, rfl⟩
theorem e_X10_pair_33 : kk_d cX10_pair 33 (.aload_n 0) 1 34 := ⟨by decide +kernel, rfl⟩
theorem e_X10_pair_34 : kk_d cX10_pair 34 (.getfield 21) 3 37 := ⟨by decide +kernel, rfl⟩
theorem e_X10_pair_37 : kk_d cX10_pair 37 (.iload_n 1) 1 38 := ⟨by decide +kernel, rfl⟩
theorem e_X10_pair_38 : kk_d cX10_pair 38 (.invokevirtual 170) 3 41 := ⟨by decide +kernel, rfl⟩
theorem e_X10_pair_41 : kk_d cX10_pair 41 (.iinc 1 1) 3 44 := ⟨by decide +kernel, rfl⟩
theorem e_X10_pair_44 : kk_dj cX10_pair 44 (.goto (-22)) 3 (-22) 47 22 := ⟨by decide +kernel, rfl, by decide⟩
theorem e_X10_pair_10 : kk_d cX10_pair 10 (.bipush (-2)) 2 12 := ⟨by decide +kernel, rfl⟩
theorem e_X10_pair_12 : kk_d cX10_pair 12 .ireturn 1 13 := ⟨by decide +kernel, rfl⟩
set_option maxRecDepth 4000 in
theorem s_X10_pair (Z : kk_Z) (σ : kk_St) (Q : Int32 → kk_St → Prop) (h : f_X10_pair σ Q) : kk_M Z sh_C yX10_pair cX10_pair 2 (some .int) (kk_R 6) [.ref (Z.2.1 0)] σ (kk_Qi Z sh_C Q) := by
  unfold f_X10_pair at h
  refine kk_met (own := RX10) (by decide) rfl (Nat.le_of_ble_eq_true rfl) rfl ?_
  refine kk_aload_n 0 rfl e_X10_pair_0 ?_
  refine kk_getr e_X10_pair_1 fl_X10_10 rfl rfl ?_
  refine kk_callVip (As := []) (rest := []) e_X10_pair_4 ml_X10_166 ⟨_, _, _, _, rfl, rfl⟩ rfl (kk_fitR (by decide) (by decide)) (Nat.le_of_ble_eq_true rfl) rfl (s_X6_onePart Z σ _ h) (fun r_1 h => ?_)
  refine kk_if_ne e_X10_pair_7 (fun c_8 => ?_) (fun c_8 => ?_)
  · replace h := h.1 c_8
    refine kk_aload_n 0 rfl e_X10_pair_13 ?_
    refine kk_getr e_X10_pair_14 fl_X10_21 rfl rfl ?_
    refine kk_callVv (As := []) (rest := []) e_X10_pair_17 ml_X10_100 ⟨_, _, _, _, rfl, rfl⟩ rfl (kk_fitR (by decide) (by decide)) (Nat.le_of_ble_eq_true rfl) rfl (s_X3_clear Z σ _ h) (fun σ_2 h => ?_)
    refine kk_iconst ic_0 e_X10_pair_20 ?_
    refine kk_istore_n (lv' := [(1, .int (0 : Int32)), (0, .ref (Z.2.1 0))]) e_X10_pair_21 rfl (by decide) rfl ?_
    refine kk_sub [1, 0] rfl ?_
    refine kk_lpW2 (P := fun (v1_3 : Int32) (σ_4 : kk_St) => KK Z sh_C RX10 cX10_pair 2 (some .int) (kk_R 6) (kk_Qi Z sh_C Q) 22 [(0, .ref (Z.2.1 0)), (1, .int v1_3)] [] σ_4) ?_ h
    intro rec_5 hrec_5 v1_3 σ_4 h
    refine kk_iload_n 1 rfl e_X10_pair_22 ?_
    refine kk_aload_n 0 rfl e_X10_pair_23 ?_
    refine kk_getr e_X10_pair_24 fl_X10_10 rfl rfl ?_
    refine kk_geti e_X10_pair_27 fl_X10_112 rfl rfl ?_
    refine kk_icmp_ge e_X10_pair_30 (fun c_7 => ?_) (fun c_7 => ?_)
    · replace h := h.1 c_7
      refine kk_aload_n 0 rfl e_X10_pair_47 ?_
      refine kk_getr e_X10_pair_48 fl_X10_10 rfl rfl ?_
      refine kk_geti e_X10_pair_51 fl_X10_112 rfl rfl ?_
      exact kk_iret e_X10_pair_54 h
    · replace h := h.2 c_7
      refine kk_aload_n 0 rfl e_X10_pair_33 ?_
      refine kk_getr e_X10_pair_34 fl_X10_21 rfl rfl ?_
      refine kk_iload_n 1 rfl e_X10_pair_37 ?_
      refine kk_callVv (As := [.int v1_3]) (rest := []) e_X10_pair_38 ml_X10_170 ⟨_, _, _, _, rfl, rfl⟩ rfl (kk_fitR (by decide) (by decide)) (Nat.le_of_ble_eq_true rfl) rfl (s_X3_giveBelowDegree Z v1_3 σ_4 _ h) (fun σ_6 h => ?_)
      refine kk_iinc (lv' := [(1, .int (v1_3 + (1 : Int32))), (0, .ref (Z.2.1 0))]) e_X10_pair_41 (j := 1) rfl (ii_1 v1_3) (by decide) rfl ?_
      refine kk_goto e_X10_pair_44 ?_
      exact kk_sub [1, 0] rfl (hrec_5 (v1_3 + (1 : Int32)) σ_6 h)
  · replace h := h.2 c_8
    refine kk_bipush bp_m2 e_X10_pair_10 ?_
    exact kk_iret e_X10_pair_12 h
theorem e_X10_post_0 : kk_d cX10_post 0 (.aload_n 0) 1 1 := ⟨by decide +kernel, rfl⟩
theorem e_X10_post_1 : kk_d cX10_post 1 (.getfield 10) 3 4 := ⟨by decide +kernel, rfl⟩
theorem e_X10_post_4 : kk_d cX10_post 4 (.iload_n 1) 1 5 := ⟨by decide +kernel, rfl⟩
theorem e_X10_post_5 : kk_d cX10_post 5 (.invokevirtual 108) 3 8 := ⟨by decide +kernel, rfl⟩
theorem e_X10_post_8 : kk_dj cX10_post 8 (.ifCond .ne 5) 3 (5) 11 13 := ⟨by decide +kernel, rfl, by decide⟩
theorem e_X10_post_13 : kk_d cX10_post 13 (.aload_n 0) 1 14 := ⟨by decide +kernel, rfl⟩
theorem e_X10_post_14 : kk_d cX10_post 14 (.getfield 21) 3 17 := ⟨by decide +kernel, rfl⟩
theorem e_X10_post_17 : kk_d cX10_post 17 (.iload_n 1) 1 18 := ⟨by decide +kernel, rfl⟩
theorem e_X10_post_18 : kk_d cX10_post 18 (.invokevirtual 209) 3 21 := ⟨by decide +kernel, rfl⟩
theorem e_X10_post_21 : kk_d cX10_post 21 (.istore_n 3) 1 22 := ⟨by decide +kernel, rfl⟩
theorem e_X10_post_22 : kk_d cX10_post 22 (.iload_n 2) 1 23 := ⟨by decide +kernel, rfl⟩
theorem e_X10_post_23 : decode cX10_post 23 = .ok (.tableswitch 74 0 3 #[29, 42, 44, 53], 29) := by decide +kernel
theorem e_X10_post_52 : kk_d cX10_post 52 (.aload_n 0) 1 53 := ⟨by decide +kernel, rfl⟩
theorem e_X10_post_53 : kk_d cX10_post 53 (.getfield 10) 3 56 := ⟨by decide +kernel, rfl⟩
theorem e_X10_post_56 : kk_d cX10_post 56 (.getfield 212) 3 59 := ⟨by decide +kernel, rfl⟩
theorem e_X10_post_59 : kk_d cX10_post 59 (.iload_n 1) 1 60 := ⟨by decide +kernel, rfl⟩
theorem e_X10_post_60 : kk_d cX10_post 60 .iaload 1 61 := ⟨by decide +kernel, rfl⟩
theorem e_X10_post_61 : kk_d cX10_post 61 (.invokestatic 155) 3 64 := ⟨by decide +kernel, rfl⟩
theorem e_X10_post_64 : kk_d cX10_post 64 .ireturn 1 65 := ⟨by decide +kernel, rfl⟩
theorem e_X10_post_65 : kk_d cX10_post 65 (.iload_n 3) 1 66 := ⟨by decide +kernel, rfl⟩
theorem e_X10_post_66 : kk_d cX10_post 66 .ireturn 1 67 := ⟨by decide +kernel, rfl⟩
theorem e_X10_post_67 : kk_d cX10_post 67 (.aload_n 0) 1 68 := ⟨by decide +kernel, rfl⟩
theorem e_X10_post_68 : kk_d cX10_post 68 (.getfield 21) 3 71 := ⟨by decide +kernel, rfl⟩
theorem e_X10_post_71 : kk_d cX10_post 71 (.iload_n 1) 1 72 := ⟨by decide +kernel, rfl⟩
theorem e_X10_post_72 : kk_d cX10_post 72 (.invokevirtual 215) 3 75 := ⟨by decide +kernel, rfl⟩
theorem e_X10_post_75 : kk_d cX10_post 75 .ireturn 1 76 := ⟨by decide +kernel, rfl⟩
theorem e_X10_post_76 : kk_d cX10_post 76 (.iload_n 3) 1 77 := ⟨by decide +kernel, rfl⟩
theorem e_X10_post_77 : kk_dj cX10_post 77 (.ifCond .ne 7) 3 (7) 80 84 := ⟨by decide +kernel, rfl, by decide⟩
theorem e_X10_post_96 : kk_d cX10_post 96 .ireturn 1 97 := ⟨by decide +kernel, rfl⟩
theorem e_X10_post_84 : kk_d cX10_post 84 (.aload_n 0) 1 85 := ⟨by decide +kernel, rfl⟩
theorem e_X10_post_85 : kk_d cX10_post 85 (.getfield 21) 3 88 := ⟨by decide +kernel, rfl⟩
theorem e_X10_post_88 : kk_d cX10_post 88 (.iload_n 1) 1 89 := ⟨by decide +kernel, rfl⟩
theorem e_X10_post_89 : kk_d cX10_post 89 (.iload_n 3) 1 90 := ⟨by decide +kernel, rfl⟩
theorem e_X10_post_90 : kk_d cX10_post 90 (.invokestatic 218) 3 93 := ⟨by decide +kernel, rfl⟩
theorem e_X10_post_93 : kk_d cX10_post 93 (.invokevirtual 206) 3 96 := ⟨by decide +kernel, rfl⟩
theorem e_X10_post_80 : kk_d cX10_post 80 (.iconst (-1)) 1 81 := ⟨by decide +kernel, rfl⟩
theorem e_X10_post_81 : kk_dj cX10_post 81 (.goto 15) 3 (15) 84 96 := ⟨by decide +kernel, rfl, by decide⟩
theorem e_X10_post_97 : kk_d cX10_post 97 (.iconst (-1)) 1 98 := ⟨by decide +kernel, rfl⟩
theorem e_X10_post_98 : kk_d cX10_post 98 .ireturn 1 99 := ⟨by decide +kernel, rfl⟩
theorem e_X10_post_11 : kk_d cX10_post 11 (.iconst (-1)) 1 12 := ⟨by decide +kernel, rfl⟩
theorem e_X10_post_12 : kk_d cX10_post 12 .ireturn 1 13 := ⟨by decide +kernel, rfl⟩
set_option maxRecDepth 4000 in
theorem s_X10_post (Z : kk_Z) (v1 : Int32) (v2 : Int32) (σ : kk_St) (Q : Int32 → Prop) (h : f_X10_post v1 v2 σ Q) : kk_M Z sh_C yX10_post cX10_post 4 (some .int) (kk_R 5) [.ref (Z.2.1 0), .int v1, .int v2] σ (kk_Qi Z sh_C (fun r σ' => σ' = σ ∧ Q r)) := by
  unfold f_X10_post at h
  refine kk_met (own := RX10) (by decide) rfl (Nat.le_of_ble_eq_true rfl) rfl ?_
  refine kk_aload_n 0 rfl e_X10_post_0 ?_
  refine kk_getr e_X10_post_1 fl_X10_10 rfl rfl ?_
  refine kk_iload_n 1 rfl e_X10_post_4 ?_
  refine kk_callVip (As := [.int v1]) (rest := []) e_X10_post_5 ml_X10_108 ⟨_, _, _, _, rfl, rfl⟩ rfl (kk_fitR (by decide) (by decide)) (Nat.le_of_ble_eq_true rfl) rfl (s_X6_isPost Z v1 σ _ h) (fun r_1 h => ?_)
  refine kk_if_ne e_X10_post_8 (fun c_10 => ?_) (fun c_10 => ?_)
  · replace h := h.1 c_10
    refine kk_aload_n 0 rfl e_X10_post_13 ?_
    refine kk_getr e_X10_post_14 fl_X10_21 rfl rfl ?_
    refine kk_iload_n 1 rfl e_X10_post_17 ?_
    refine kk_callVip (As := [.int v1]) (rest := []) e_X10_post_18 ml_X10_209 ⟨_, _, _, _, rfl, rfl⟩ rfl (kk_fitR (by decide) (by decide)) (Nat.le_of_ble_eq_true rfl) rfl (s_X3_coloursAt Z v1 σ _ h) (fun r_2 h => ?_)
    refine kk_istore_n (lv' := [(3, .int r_2), (0, .ref (Z.2.1 0)), (1, .int v1), (2, .int v2)]) e_X10_post_21 rfl (by decide) rfl ?_
    refine kk_iload_n 3 rfl e_X10_post_22 ?_
    rcases kk_swc v2 4 (by decide) with ⟨i, hi, hx⟩ | hx
    · rcases (show i = 0 ∨ i = 1 ∨ i = 2 ∨ i = 3 by omega) with rfl | rfl | rfl | rfl
      · replace h := h.1 hx
        refine kk_swIn (tgt := 52) e_X10_post_23 0 hx (by decide) (by decide) rfl (by decide) ?_
        refine kk_aload_n 1 rfl e_X10_post_52 ?_
        refine kk_getr e_X10_post_53 fl_X10_10 rfl rfl ?_
        refine kk_getr e_X10_post_56 fl_X10_212 rfl rfl ?_
        refine kk_iload_n 2 rfl e_X10_post_59 ?_
        refine kk_iald e_X10_post_60 rfl h.1 ?_
        replace h := h.2
        refine kk_callSip (As := [.int (kk_rd σ 14 v1)]) (rest := []) e_X10_post_61 ml_X10_155 rfl (kk_fitR (by decide) (by decide)) (Nat.le_of_ble_eq_true rfl) rfl (s_J6_bitCount_0f7a4 Z (kk_rd σ 14 v1) σ _ h) (fun r_3 h => ?_)
        exact kk_iret e_X10_post_64 ⟨rfl, h⟩
      · replace h := h.2.1 hx
        refine kk_swIn (tgt := 65) e_X10_post_23 1 hx (by decide) (by decide) rfl (by decide) ?_
        refine kk_iload_n 0 rfl e_X10_post_65 ?_
        exact kk_iret e_X10_post_66 ⟨rfl, h⟩
      · replace h := h.2.2.1 hx
        refine kk_swIn (tgt := 67) e_X10_post_23 2 hx (by decide) (by decide) rfl (by decide) ?_
        refine kk_aload_n 1 rfl e_X10_post_67 ?_
        refine kk_getr e_X10_post_68 fl_X10_21 rfl rfl ?_
        refine kk_iload_n 2 rfl e_X10_post_71 ?_
        refine kk_callVip (As := [.int v1]) (rest := []) e_X10_post_72 ml_X10_215 ⟨_, _, _, _, rfl, rfl⟩ rfl (kk_fitR (by decide) (by decide)) (Nat.le_of_ble_eq_true rfl) rfl (s_X3_leastFreeAt Z v1 σ _ h) (fun r_4 h => ?_)
        exact kk_iret e_X10_post_75 ⟨rfl, h⟩
      · replace h := h.2.2.2.1 hx
        refine kk_swIn (tgt := 76) e_X10_post_23 3 hx (by decide) (by decide) rfl (by decide) ?_
        refine kk_iload_n 0 rfl e_X10_post_76 ?_
        refine kk_jW1 (P := fun (t_5 : Int32) => KK Z sh_C RX10 cX10_post 4 (some .int) (kk_R 5) (kk_Qi Z sh_C (fun r σ' => σ' = σ ∧ Q r)) 96 [] [.int t_5] σ) h ?_ ?_
        · intro t_5 h
          exact kk_iret e_X10_post_96 ⟨rfl, h⟩
        · intro J_6 hJ_6 h
          refine kk_if_ne e_X10_post_77 (fun c_9 => ?_) (fun c_9 => ?_)
          · replace h := h.1 c_9
            refine kk_aload_n 1 rfl e_X10_post_84 ?_
            refine kk_getr e_X10_post_85 fl_X10_21 rfl rfl ?_
            refine kk_iload_n 2 rfl e_X10_post_88 ?_
            refine kk_iload_n 0 rfl e_X10_post_89 ?_
            refine kk_callSip (As := [.int r_2]) (rest := [.int v1, .ref (Z.2.1 2)]) e_X10_post_90 ml_X10_218 rfl (kk_fitR (by decide) (by decide)) (Nat.le_of_ble_eq_true rfl) rfl (s_X10_greatestBit Z r_2 σ _ h) (fun r_7 h => ?_)
            refine kk_callVip (As := [.int v1, .int r_7]) (rest := []) e_X10_post_93 ml_X10_206 ⟨_, _, _, _, rfl, rfl⟩ rfl (kk_fitR (by decide) (by decide)) (Nat.le_of_ble_eq_true rfl) rfl (s_X3_lineWith Z v1 r_7 σ _ h) (fun r_8 h => ?_)
            exact kk_sub [] rfl (hJ_6 r_8 h)
          · replace h := h.2 c_9
            refine kk_iconst ic_m1 e_X10_post_80 ?_
            refine kk_goto e_X10_post_81 ?_
            exact kk_sub [] rfl (hJ_6 (-1 : Int32) h)
    · replace h := h.2.2.2.2 (by omega)
      refine kk_swOut (tgt := 97) e_X10_post_23 (by omega) (by decide) ?_
      refine kk_iconst ic_m1 e_X10_post_97 ?_
      exact kk_iret e_X10_post_98 ⟨rfl, h⟩
  · replace h := h.2 c_10
    refine kk_iconst ic_m1 e_X10_post_11 ?_
    exact kk_iret e_X10_post_12 ⟨rfl, h⟩
theorem e_X6_leastPostAbove_0 : kk_d cX6_leastPostAbove 0 (.iconst 0) 1 1 := ⟨by decide +kernel, rfl⟩
theorem e_X6_leastPostAbove_1 : kk_d cX6_leastPostAbove 1 (.istore_n 2) 1 2 := ⟨by decide +kernel, rfl⟩
theorem e_X6_leastPostAbove_2 : kk_d cX6_leastPostAbove 2 (.iload_n 2) 1 3 := ⟨by decide +kernel, rfl⟩
theorem e_X6_leastPostAbove_3 : kk_d cX6_leastPostAbove 3 (.aload_n 0) 1 4 := ⟨by decide +kernel, rfl⟩
theorem e_X6_leastPostAbove_4 : kk_d cX6_leastPostAbove 4 (.getfield 27) 3 7 := ⟨by decide +kernel, rfl⟩
theorem e_X6_leastPostAbove_7 : kk_dj cX6_leastPostAbove 7 (.if_icmp .ge 24) 3 (24) 10 31 := ⟨by decide +kernel, rfl, by decide⟩
theorem e_X6_leastPostAbove_31 : kk_d cX6_leastPostAbove 31 (.iconst (-1)) 1 32 := ⟨by decide +kernel, rfl⟩
theorem e_X6_leastPostAbove_32 : kk_d cX6_leastPostAbove 32 .ireturn 1 33 := ⟨by decide +kernel, rfl⟩
theorem e_X6_leastPostAbove_10 : kk_d cX6_leastPostAbove 10 (.aload_n 0) 1 11 := ⟨by decide +kernel, rfl⟩
theorem e_X6_leastPostAbove_11 : kk_d cX6_leastPostAbove 11 (.getfield 21) 3 14 := ⟨by decide +kernel, rfl⟩
theorem e_X6_leastPostAbove_14 : kk_d cX6_leastPostAbove 14 (.iload_n 2) 1 15 := ⟨by decide +kernel, rfl⟩
theorem e_X6_leastPostAbove_15 : kk_d cX6_leastPostAbove 15 .iaload 1 16 := ⟨by decide +kernel, rfl⟩
theorem e_X6_leastPostAbove_16 : kk_d cX6_leastPostAbove 16 (.invokestatic 65) 3 19 := ⟨by decide +kernel, rfl⟩
theorem e_X6_leastPostAbove_19 : kk_d cX6_leastPostAbove 19 (.iload_n 1) 1 20 := ⟨by decide +kernel, rfl⟩
theorem e_X6_leastPostAbove_20 : kk_dj cX6_leastPostAbove 20 (.if_icmp .le 5) 3 (5) 23 25 := ⟨by decide +kernel, rfl, by decide⟩
theorem e_X6_leastPostAbove_25 : kk_d cX6_leastPostAbove 25 (.iinc 2 1) 3 28 := ⟨by decide +kernel, rfl⟩
theorem e_X6_leastPostAbove_28 : kk_dj cX6_leastPostAbove 28 (.goto (-26)) 3 (-26) 31 2 := ⟨by decide +kernel, rfl, by decide⟩
theorem e_X6_leastPostAbove_23 : kk_d cX6_leastPostAbove 23 (.iload_n 2) 1 24 := ⟨by decide +kernel, rfl⟩
theorem e_X6_leastPostAbove_24 : kk_d cX6_leastPostAbove 24 .ireturn 1 25 := ⟨by decide +kernel, rfl⟩
set_option maxRecDepth 4000 in
theorem s_X6_leastPostAbove (Z : kk_Z) (v1 : Int32) (σ : kk_St) (Q : Int32 → Prop) (h : f_X6_leastPostAbove v1 σ Q) : kk_M Z sh_C yX6_leastPostAbove cX6_leastPostAbove 3 (some .int) (kk_R 3) [.ref (Z.2.1 1), .int v1] σ (kk_Qi Z sh_C (fun r σ' => σ' = σ ∧ Q r)) := by
  unfold f_X6_leastPostAbove at h
  refine kk_met (own := RX6) (by decide) rfl (Nat.le_of_ble_eq_true rfl) rfl ?_
  refine kk_iconst ic_0 e_X6_leastPostAbove_0 ?_
  refine kk_istore_n (lv' := [(2, .int (0 : Int32)), (0, .ref (Z.2.1 1)), (1, .int v1)]) e_X6_leastPostAbove_1 rfl (by decide) rfl ?_
  refine kk_sub [1, 2, 0] rfl ?_
  refine kk_lpW1 (P := fun (v2_1 : Int32) => KK Z sh_C RX6 cX6_leastPostAbove 3 (some .int) (kk_R 3) (kk_Qi Z sh_C (fun r σ' => σ' = σ ∧ Q r)) 2 [(0, .ref (Z.2.1 1)), (1, .int v1), (2, .int v2_1)] [] σ) ?_ h
  intro rec_2 hrec_2 v2_1 h
  refine kk_iload_n 2 rfl e_X6_leastPostAbove_2 ?_
  refine kk_aload_n 0 rfl e_X6_leastPostAbove_3 ?_
  refine kk_geti e_X6_leastPostAbove_4 fl_X6_27 rfl rfl ?_
  refine kk_icmp_ge e_X6_leastPostAbove_7 (fun c_5 => ?_) (fun c_5 => ?_)
  · replace h := h.1 c_5
    refine kk_iconst ic_m1 e_X6_leastPostAbove_31 ?_
    exact kk_iret e_X6_leastPostAbove_32 ⟨rfl, h⟩
  · replace h := h.2 c_5
    refine kk_aload_n 0 rfl e_X6_leastPostAbove_10 ?_
    refine kk_getr e_X6_leastPostAbove_11 fl_X6_21 rfl rfl ?_
    refine kk_iload_n 2 rfl e_X6_leastPostAbove_14 ?_
    refine kk_iald e_X6_leastPostAbove_15 rfl h.1 ?_
    replace h := h.2
    refine kk_callSip (As := [.int (kk_rd σ 14 v2_1)]) (rest := []) e_X6_leastPostAbove_16 ml_X6_65 rfl (kk_fitR (by decide) (by decide)) (Nat.le_of_ble_eq_true rfl) rfl (s_J6_bitCount_0f7a4 Z (kk_rd σ 14 v2_1) σ _ h) (fun r_3 h => ?_)
    refine kk_iload_n 1 rfl e_X6_leastPostAbove_19 ?_
    refine kk_icmp_le e_X6_leastPostAbove_20 (fun c_4 => ?_) (fun c_4 => ?_)
    · replace h := h.1 c_4
      refine kk_iinc (lv' := [(2, .int (v2_1 + (1 : Int32))), (0, .ref (Z.2.1 1)), (1, .int v1)]) e_X6_leastPostAbove_25 (j := 2) rfl (ii_1 v2_1) (by decide) rfl ?_
      refine kk_goto e_X6_leastPostAbove_28 ?_
      exact kk_sub [1, 2, 0] rfl (hrec_2 (v2_1 + (1 : Int32)) h)
    · replace h := h.2 c_4
      refine kk_iload_n 2 rfl e_X6_leastPostAbove_23 ?_
      exact kk_iret e_X6_leastPostAbove_24 ⟨rfl, h⟩
theorem e_X10_refused_0 : kk_d cX10_refused 0 (.iload_n 1) 1 1 := ⟨by decide +kernel, rfl⟩
theorem e_X10_refused_1 : kk_d cX10_refused 1 (.invokestatic 260) 3 4 := ⟨by decide +kernel, rfl⟩
theorem e_X10_refused_4 : kk_dj cX10_refused 4 (.ifCond .eq 12) 3 (12) 7 16 := ⟨by decide +kernel, rfl, by decide⟩
theorem e_X10_refused_16 : kk_d cX10_refused 16 (.iconst (-1)) 1 17 := ⟨by decide +kernel, rfl⟩
theorem e_X10_refused_17 : kk_d cX10_refused 17 .ireturn 1 18 := ⟨by decide +kernel, rfl⟩
theorem e_X10_refused_7 : kk_d cX10_refused 7 (.iload_n 2) 1 8 := ⟨by decide +kernel, rfl⟩
theorem e_X10_refused_8 : kk_dj cX10_refused 8 (.ifCond .lt 8) 3 (8) 11 16 := ⟨by decide +kernel, rfl, by decide⟩
theorem e_X10_refused_11 : kk_d cX10_refused 11 (.iload_n 2) 1 12 := ⟨by decide +kernel, rfl⟩
theorem e_X10_refused_12 : kk_d cX10_refused 12 (.iconst 1) 1 13 := ⟨by decide +kernel, rfl⟩
theorem e_X10_refused_13 : kk_dj cX10_refused 13 (.if_icmp .le 5) 3 (5) 16 18 := ⟨by decide +kernel, rfl, by decide⟩
theorem e_X10_refused_18 : kk_d cX10_refused 18 (.aload_n 0) 1 19 := ⟨by decide +kernel, rfl⟩
theorem e_X10_refused_19 : kk_d cX10_refused 19 (.getfield 10) 3 22 := ⟨by decide +kernel, rfl⟩
theorem e_X10_refused_22 : kk_d cX10_refused 22 (.getfield 266) 3 25 := ⟨by decide +kernel, rfl⟩
theorem e_X10_refused_25 : kk_d cX10_refused 25 (.iload_n 1) 1 26 := ⟨by decide +kernel, rfl⟩
theorem e_X10_refused_26 : kk_dj cX10_refused 26 (.if_icmp .le 20) 3 (20) 29 46 := ⟨by decide +kernel, rfl, by decide⟩
theorem e_X10_refused_46 : kk_d cX10_refused 46 (.aload_n 0) 1 47 := ⟨by decide +kernel, rfl⟩
theorem e_X10_refused_47 : kk_d cX10_refused 47 (.getfield 10) 3 50 := ⟨by decide +kernel, rfl⟩
theorem e_X10_refused_50 : kk_d cX10_refused 50 (.aload_n 0) 1 51 := ⟨by decide +kernel, rfl⟩
theorem e_X10_refused_51 : kk_d cX10_refused 51 (.getfield 10) 3 54 := ⟨by decide +kernel, rfl⟩
theorem e_X10_refused_54 : kk_d cX10_refused 54 (.invokevirtual 263) 3 57 := ⟨by decide +kernel, rfl⟩
theorem e_X10_refused_57 : kk_d cX10_refused 57 (.iload_n 1) 1 58 := ⟨by decide +kernel, rfl⟩
theorem e_X10_refused_58 : kk_d cX10_refused 58 (.invokevirtual 269) 3 61 := ⟨by decide +kernel, rfl⟩
theorem e_X10_refused_61 : kk_d cX10_refused 61 (.istore_n 3) 1 62 := ⟨by decide +kernel, rfl⟩
theorem e_X10_refused_62 : kk_d cX10_refused 62 (.iload_n 3) 1 63 := ⟨by decide +kernel, rfl⟩
theorem e_X10_refused_63 : kk_dj cX10_refused 63 (.ifCond .eq 13) 3 (13) 66 76 := ⟨by decide +kernel, rfl, by decide⟩
theorem e_X10_refused_76 : kk_d cX10_refused 76 (.iload_n 2) 1 77 := ⟨by decide +kernel, rfl⟩
theorem e_X10_refused_77 : kk_dj cX10_refused 77 (.ifCond .ne 18) 3 (18) 80 95 := ⟨by decide +kernel, rfl, by decide⟩
theorem e_X10_refused_96 : kk_d cX10_refused 96 .ireturn 1 97 := ⟨by decide +kernel, rfl⟩
theorem e_X10_refused_95 : kk_d cX10_refused 95 (.iconst 0) 1 96 := ⟨by decide +kernel, rfl⟩
theorem e_X10_refused_80 : kk_d cX10_refused 80 (.iload_n 1) 1 81 := ⟨by decide +kernel, rfl⟩
theorem e_X10_refused_81 : kk_d cX10_refused 81 (.aload_n 0) 1 82 := ⟨by decide +kernel, rfl⟩
theorem e_X10_refused_82 : kk_d cX10_refused 82 (.getfield 60) 3 85 := ⟨by decide +kernel, rfl⟩
theorem e_X10_refused_85 : kk_d cX10_refused 85 (.invokevirtual 257) 3 88 := ⟨by decide +kernel, rfl⟩
theorem e_X10_refused_88 : kk_dj cX10_refused 88 (.if_icmp .ge 7) 3 (7) 91 95 := ⟨by decide +kernel, rfl, by decide⟩
theorem e_X10_refused_91 : kk_d cX10_refused 91 (.iconst 3) 1 92 := ⟨by decide +kernel, rfl⟩
theorem e_X10_refused_92 : kk_dj cX10_refused 92 (.goto 4) 3 (4) 95 96 := ⟨by decide +kernel, rfl, by decide⟩
theorem e_X10_refused_66 : kk_d cX10_refused 66 (.iload_n 2) 1 67 := ⟨by decide +kernel, rfl⟩
theorem e_X10_refused_67 : kk_dj cX10_refused 67 (.ifCond .ne 7) 3 (7) 70 74 := ⟨by decide +kernel, rfl, by decide⟩
theorem e_X10_refused_75 : kk_d cX10_refused 75 .ireturn 1 76 := ⟨by decide +kernel, rfl⟩
theorem e_X10_refused_74 : kk_d cX10_refused 74 (.iload_n 3) 1 75 := ⟨by decide +kernel, rfl⟩
theorem e_X10_refused_70 : kk_d cX10_refused 70 (.iconst 2) 1 71 := ⟨by decide +kernel, rfl⟩
theorem e_X10_refused_71 : kk_dj cX10_refused 71 (.goto 4) 3 (4) 74 75 := ⟨by decide +kernel, rfl, by decide⟩
theorem e_X10_refused_29 : kk_d cX10_refused 29 (.iload_n 2) 1 30 := ⟨by decide +kernel, rfl⟩
theorem e_X10_refused_30 : kk_dj cX10_refused 30 (.ifCond .ne 7) 3 (7) 33 37 := ⟨by decide +kernel, rfl, by decide⟩
theorem e_X10_refused_45 : kk_d cX10_refused 45 .ireturn 1 46 := ⟨by decide +kernel, rfl⟩
theorem e_X10_refused_37 : kk_d cX10_refused 37 (.aload_n 0) 1 38 := ⟨by decide +kernel, rfl⟩
theorem e_X10_refused_38 : kk_d cX10_refused 38 (.getfield 10) 3 41 := ⟨by decide +kernel, rfl⟩
theorem e_X10_refused_41 : kk_d cX10_refused 41 (.iload_n 1) 1 42 := ⟨by decide +kernel, rfl⟩
theorem e_X10_refused_42 : kk_d cX10_refused 42 (.invokevirtual 275) 3 45 := ⟨by decide +kernel, rfl⟩
theorem e_X10_refused_33 : kk_d cX10_refused 33 (.iconst 1) 1 34 := ⟨by decide +kernel, rfl⟩
theorem e_X10_refused_34 : kk_dj cX10_refused 34 (.goto 11) 3 (11) 37 45 := ⟨by decide +kernel, rfl, by decide⟩
set_option maxRecDepth 4000 in
theorem s_X10_refused (Z : kk_Z) (v1 : Int32) (v2 : Int32) (σ : kk_St) (Q : Int32 → kk_St → Prop) (h : f_X10_refused v1 v2 σ Q) : kk_M Z sh_C yX10_refused cX10_refused 4 (some .int) (kk_R 68) [.ref (Z.2.1 0), .int v1, .int v2] σ (kk_Qi Z sh_C Q) := by
  unfold f_X10_refused at h
  refine kk_met (own := RX10) (by decide) rfl (Nat.le_of_ble_eq_true rfl) rfl ?_
  refine kk_iload_n 1 rfl e_X10_refused_0 ?_
  refine kk_callSip (As := [.int v1]) (rest := []) e_X10_refused_1 ml_X10_260 rfl (kk_fitR (by decide) (by decide)) (Nat.le_of_ble_eq_true rfl) rfl (s_X10_isFew Z v1 σ _ h) (fun r_1 h => ?_)
  refine kk_jW0 (P := KK Z sh_C RX10 cX10_refused 4 (some .int) (kk_R 68) (kk_Qi Z sh_C Q) 16 [] [] σ) h ?_ ?_
  · intro h
    refine kk_iconst ic_m1 e_X10_refused_16 ?_
    exact kk_iret e_X10_refused_17 h
  · intro J_2 hJ_2 h
    refine kk_if_eq e_X10_refused_4 (fun c_25 => ?_) (fun c_25 => ?_)
    · replace h := h.1 c_25
      exact kk_sub [] rfl (hJ_2 h)
    · replace h := h.2 c_25
      refine kk_iload_n 2 rfl e_X10_refused_7 ?_
      refine kk_if_lt e_X10_refused_8 (fun c_24 => ?_) (fun c_24 => ?_)
      · replace h := h.1 c_24
        exact kk_sub [] rfl (hJ_2 h)
      · replace h := h.2 c_24
        refine kk_iload_n 2 rfl e_X10_refused_11 ?_
        refine kk_iconst ic_1 e_X10_refused_12 ?_
        refine kk_icmp_le e_X10_refused_13 (fun c_23 => ?_) (fun c_23 => ?_)
        · replace h := h.1 c_23
          refine kk_aload_n 0 rfl e_X10_refused_18 ?_
          refine kk_getr e_X10_refused_19 fl_X10_10 rfl rfl ?_
          refine kk_geti e_X10_refused_22 fl_X10_266 rfl rfl ?_
          refine kk_iload_n 1 rfl e_X10_refused_25 ?_
          refine kk_icmp_le e_X10_refused_26 (fun c_22 => ?_) (fun c_22 => ?_)
          · replace h := h.1 c_22
            refine kk_aload_n 0 rfl e_X10_refused_46 ?_
            refine kk_getr e_X10_refused_47 fl_X10_10 rfl rfl ?_
            refine kk_aload_n 0 rfl e_X10_refused_50 ?_
            refine kk_getr e_X10_refused_51 fl_X10_10 rfl rfl ?_
            refine kk_callVip (As := []) (rest := [.ref (Z.2.1 1)]) e_X10_refused_54 ml_X10_263 ⟨_, _, _, _, rfl, rfl⟩ rfl (kk_fitR (by decide) (by decide)) (Nat.le_of_ble_eq_true rfl) rfl (s_X6_allLines Z σ _ h) (fun r_3 h => ?_)
            refine kk_iload_n 1 rfl e_X10_refused_57 ?_
            refine kk_callVip (As := [.int r_3, .int v1]) (rest := []) e_X10_refused_58 ml_X10_269 ⟨_, _, _, _, rfl, rfl⟩ rfl (kk_fitR (by decide) (by decide)) (Nat.le_of_ble_eq_true rfl) rfl (s_X6_crowdedSet Z r_3 v1 σ _ h) (fun r_4 h => ?_)
            refine kk_istore_n (lv' := [(3, .int r_4), (0, .ref (Z.2.1 0)), (1, .int v1), (2, .int v2)]) e_X10_refused_61 rfl (by decide) rfl ?_
            refine kk_iload_n 0 rfl e_X10_refused_62 ?_
            refine kk_if_eq e_X10_refused_63 (fun c_17 => ?_) (fun c_17 => ?_)
            · replace h := h.1 c_17
              refine kk_iload_n 3 rfl e_X10_refused_76 ?_
              refine kk_jW2 (P := fun (t_5 : Int32) (σ_6 : kk_St) => KK Z sh_C RX10 cX10_refused 4 (some .int) (kk_R 68) (kk_Qi Z sh_C Q) 96 [] [.int t_5] σ_6) h ?_ ?_
              · intro t_5 σ_6 h
                exact kk_iret e_X10_refused_96 h
              · intro J_7 hJ_7 h
                refine kk_jW1 (P := fun (σ_8 : kk_St) => KK Z sh_C RX10 cX10_refused 4 (some .int) (kk_R 68) (kk_Qi Z sh_C Q) 95 [] [] σ_8) h ?_ ?_
                · intro σ_8 h
                  refine kk_iconst ic_0 e_X10_refused_95 ?_
                  exact kk_sub [] rfl (hJ_7 (0 : Int32) σ_8 h)
                · intro J_9 hJ_9 h
                  refine kk_if_ne e_X10_refused_77 (fun c_13 => ?_) (fun c_13 => ?_)
                  · replace h := h.1 c_13
                    exact kk_sub [] rfl (hJ_9 σ h)
                  · replace h := h.2 c_13
                    refine kk_iload_n 2 rfl e_X10_refused_80 ?_
                    refine kk_aload_n 1 rfl e_X10_refused_81 ?_
                    refine kk_getr e_X10_refused_82 fl_X10_60 rfl rfl ?_
                    refine kk_callVi (As := []) (rest := [.int v1]) e_X10_refused_85 ml_X10_257 ⟨_, _, _, _, rfl, rfl⟩ rfl (kk_fitR (by decide) (by decide)) (Nat.le_of_ble_eq_true rfl) rfl (s_X7_fewest Z σ _ h) (fun r_10 σ_11 h => ?_)
                    refine kk_icmp_ge e_X10_refused_88 (fun c_12 => ?_) (fun c_12 => ?_)
                    · replace h := h.1 c_12
                      exact kk_sub [] rfl (hJ_9 σ_11 h)
                    · replace h := h.2 c_12
                      refine kk_iconst ic_3 e_X10_refused_91 ?_
                      refine kk_goto e_X10_refused_92 ?_
                      exact kk_sub [] rfl (hJ_7 (3 : Int32) σ_11 h)
            · replace h := h.2 c_17
              refine kk_iload_n 3 rfl e_X10_refused_66 ?_
              refine kk_jW1 (P := fun (t_14 : Int32) => KK Z sh_C RX10 cX10_refused 4 (some .int) (kk_R 68) (kk_Qi Z sh_C Q) 75 [] [.int t_14] σ) h ?_ ?_
              · intro t_14 h
                exact kk_iret e_X10_refused_75 h
              · intro J_15 hJ_15 h
                refine kk_if_ne e_X10_refused_67 (fun c_16 => ?_) (fun c_16 => ?_)
                · replace h := h.1 c_16
                  refine kk_iload_n 0 rfl e_X10_refused_74 ?_
                  exact kk_sub [] rfl (hJ_15 r_4 h)
                · replace h := h.2 c_16
                  refine kk_iconst ic_2 e_X10_refused_70 ?_
                  refine kk_goto e_X10_refused_71 ?_
                  exact kk_sub [] rfl (hJ_15 (2 : Int32) h)
          · replace h := h.2 c_22
            refine kk_iload_n 2 rfl e_X10_refused_29 ?_
            refine kk_jW1 (P := fun (t_18 : Int32) => KK Z sh_C RX10 cX10_refused 4 (some .int) (kk_R 68) (kk_Qi Z sh_C Q) 45 [] [.int t_18] σ) h ?_ ?_
            · intro t_18 h
              exact kk_iret e_X10_refused_45 h
            · intro J_19 hJ_19 h
              refine kk_if_ne e_X10_refused_30 (fun c_21 => ?_) (fun c_21 => ?_)
              · replace h := h.1 c_21
                refine kk_aload_n 0 rfl e_X10_refused_37 ?_
                refine kk_getr e_X10_refused_38 fl_X10_10 rfl rfl ?_
                refine kk_iload_n 1 rfl e_X10_refused_41 ?_
                refine kk_callVip (As := [.int v1]) (rest := []) e_X10_refused_42 ml_X10_275 ⟨_, _, _, _, rfl, rfl⟩ rfl (kk_fitR (by decide) (by decide)) (Nat.le_of_ble_eq_true rfl) rfl (s_X6_leastPostAbove Z v1 σ _ h) (fun r_20 h => ?_)
                exact kk_sub [] rfl (hJ_19 r_20 h)
              · replace h := h.2 c_21
                refine kk_iconst ic_1 e_X10_refused_33 ?_
                refine kk_goto e_X10_refused_34 ?_
                exact kk_sub [] rfl (hJ_19 (1 : Int32) h)
        · replace h := h.2 c_23
          exact kk_sub [] rfl (hJ_2 h)
theorem e_X10_sets_0 : kk_d cX10_sets 0 (.iload_n 1) 1 1 := ⟨by decide +kernel, rfl⟩
theorem e_X10_sets_1 : kk_dj cX10_sets 1 (.ifCond .lt 8) 3 (8) 4 9 := ⟨by decide +kernel, rfl, by decide⟩
theorem e_X10_sets_9 : kk_d cX10_sets 9 (.iconst (-1)) 1 10 := ⟨by decide +kernel, rfl⟩
theorem e_X10_sets_10 : kk_d cX10_sets 10 .ireturn 1 11 := ⟨by decide +kernel, rfl⟩
theorem e_X10_sets_4 : kk_d cX10_sets 4 (.iload_n 1) 1 5 := ⟨by decide +kernel, rfl⟩
theorem e_X10_sets_5 : kk_d cX10_sets 5 (.iconst 4) 1 6 := ⟨by decide +kernel, rfl⟩
theorem e_X10_sets_6 : kk_dj cX10_sets 6 (.if_icmp .le 5) 3 (5) 9 11 := ⟨by decide +kernel, rfl, by decide⟩
theorem e_X10_sets_11 : kk_d cX10_sets 11 (.aload_n 0) 1 12 := ⟨by decide +kernel, rfl⟩
theorem e_X10_sets_12 : kk_d cX10_sets 12 (.getfield 67) 3 15 := ⟨by decide +kernel, rfl⟩
theorem e_X10_sets_15 : kk_d cX10_sets 15 (.invokevirtual 291) 3 18 := ⟨by decide +kernel, rfl⟩
theorem e_X10_sets_18 : kk_d cX10_sets 18 (.aload_n 0) 1 19 := ⟨by decide +kernel, rfl⟩
theorem e_X10_sets_19 : kk_d cX10_sets 19 (.getfield 67) 3 22 := ⟨by decide +kernel, rfl⟩
theorem e_X10_sets_22 : kk_d cX10_sets 22 (.getfield 294) 3 25 := ⟨by decide +kernel, rfl⟩
theorem e_X10_sets_25 : kk_d cX10_sets 25 (.iload_n 1) 1 26 := ⟨by decide +kernel, rfl⟩
theorem e_X10_sets_26 : kk_d cX10_sets 26 .iaload 1 27 := ⟨by decide +kernel, rfl⟩
theorem e_X10_sets_27 : kk_d cX10_sets 27 .ireturn 1 28 := ⟨by decide +kernel, rfl⟩
set_option maxRecDepth 4000 in
theorem s_X10_sets (Z : kk_Z) (v1 : Int32) (σ : kk_St) (Q : Int32 → kk_St → Prop) (h : f_X10_sets v1 σ Q) : kk_M Z sh_C yX10_sets cX10_sets 2 (some .int) (kk_R 34) [.ref (Z.2.1 0), .int v1] σ (kk_Qi Z sh_C Q) := by
  unfold f_X10_sets at h
  refine kk_met (own := RX10) (by decide) rfl (Nat.le_of_ble_eq_true rfl) rfl ?_
  refine kk_iload_n 1 rfl e_X10_sets_0 ?_
  refine kk_jW0 (P := KK Z sh_C RX10 cX10_sets 2 (some .int) (kk_R 34) (kk_Qi Z sh_C Q) 9 [] [] σ) h ?_ ?_
  · intro h
    refine kk_iconst ic_m1 e_X10_sets_9 ?_
    exact kk_iret e_X10_sets_10 h
  · intro J_1 hJ_1 h
    refine kk_if_lt e_X10_sets_1 (fun c_4 => ?_) (fun c_4 => ?_)
    · replace h := h.1 c_4
      exact kk_sub [] rfl (hJ_1 h)
    · replace h := h.2 c_4
      refine kk_iload_n 1 rfl e_X10_sets_4 ?_
      refine kk_iconst ic_4 e_X10_sets_5 ?_
      refine kk_icmp_le e_X10_sets_6 (fun c_3 => ?_) (fun c_3 => ?_)
      · replace h := h.1 c_3
        refine kk_aload_n 0 rfl e_X10_sets_11 ?_
        refine kk_getr e_X10_sets_12 fl_X10_67 rfl rfl ?_
        refine kk_callVv (As := []) (rest := []) e_X10_sets_15 ml_X10_291 ⟨_, _, _, _, rfl, rfl⟩ rfl (kk_fitR (by decide) (by decide)) (Nat.le_of_ble_eq_true rfl) rfl (s_X0_gatherAll Z σ _ h) (fun σ_2 h => ?_)
        refine kk_aload_n 0 rfl e_X10_sets_18 ?_
        refine kk_getr e_X10_sets_19 fl_X10_67 rfl rfl ?_
        refine kk_getr e_X10_sets_22 fl_X10_294 rfl rfl ?_
        refine kk_iload_n 1 rfl e_X10_sets_25 ?_
        refine kk_iald e_X10_sets_26 rfl h.1 ?_
        replace h := h.2
        exact kk_iret e_X10_sets_27 h
      · replace h := h.2 c_3
        exact kk_sub [] rfl (hJ_1 h)
theorem e_X6_leastOddRound_0 : kk_d cX6_leastOddRound 0 (.iconst 0) 1 1 := ⟨by decide +kernel, rfl⟩
theorem e_X6_leastOddRound_1 : kk_d cX6_leastOddRound 1 (.istore_n 1) 1 2 := ⟨by decide +kernel, rfl⟩
theorem e_X6_leastOddRound_2 : kk_d cX6_leastOddRound 2 (.iconst 0) 1 3 := ⟨by decide +kernel, rfl⟩
theorem e_X6_leastOddRound_3 : kk_d cX6_leastOddRound 3 (.istore_n 2) 1 4 := ⟨by decide +kernel, rfl⟩
theorem e_X6_leastOddRound_4 : kk_d cX6_leastOddRound 4 (.iload_n 2) 1 5 := ⟨by decide +kernel, rfl⟩
theorem e_X6_leastOddRound_5 : kk_d cX6_leastOddRound 5 (.aload_n 0) 1 6 := ⟨by decide +kernel, rfl⟩
theorem e_X6_leastOddRound_6 : kk_d cX6_leastOddRound 6 (.getfield 27) 3 9 := ⟨by decide +kernel, rfl⟩
theorem e_X6_leastOddRound_9 : kk_dj cX6_leastOddRound 9 (.if_icmp .ge 78) 3 (78) 12 87 := ⟨by decide +kernel, rfl, by decide⟩
theorem e_X6_leastOddRound_87 : kk_d cX6_leastOddRound 87 (.iload_n 1) 1 88 := ⟨by decide +kernel, rfl⟩
theorem e_X6_leastOddRound_88 : kk_d cX6_leastOddRound 88 .ireturn 1 89 := ⟨by decide +kernel, rfl⟩
theorem e_X6_leastOddRound_12 : kk_d cX6_leastOddRound 12 (.iconst 1) 1 13 := ⟨by decide +kernel, rfl⟩
theorem e_X6_leastOddRound_13 : kk_d cX6_leastOddRound 13 (.iload_n 2) 1 14 := ⟨by decide +kernel, rfl⟩
theorem e_X6_leastOddRound_14 : kk_d cX6_leastOddRound 14 .ishl 1 15 := ⟨by decide +kernel, rfl⟩
theorem e_X6_leastOddRound_15 : kk_d cX6_leastOddRound 15 (.istore_n 3) 1 16 := ⟨by decide +kernel, rfl⟩
theorem e_X6_leastOddRound_16 : kk_d cX6_leastOddRound 16 (.iconst 1) 1 17 := ⟨by decide +kernel, rfl⟩
theorem e_X6_leastOddRound_17 : kk_d cX6_leastOddRound 17 (.istore 4) 2 19 := ⟨by decide +kernel, rfl⟩
theorem e_X6_leastOddRound_19 : kk_d cX6_leastOddRound 19 (.iload 4) 2 21 := ⟨by decide +kernel, rfl⟩
theorem e_X6_leastOddRound_21 : kk_d cX6_leastOddRound 21 (.aload_n 0) 1 22 := ⟨by decide +kernel, rfl⟩
theorem e_X6_leastOddRound_22 : kk_d cX6_leastOddRound 22 (.getfield 27) 3 25 := ⟨by decide +kernel, rfl⟩
theorem e_X6_leastOddRound_25 : kk_dj cX6_leastOddRound 25 (.if_icmp .gt 56) 3 (56) 28 81 := ⟨by decide +kernel, rfl, by decide⟩
theorem e_X6_leastOddRound_81 : kk_d cX6_leastOddRound 81 (.iinc 2 1) 3 84 := ⟨by decide +kernel, rfl⟩
theorem e_X6_leastOddRound_84 : kk_dj cX6_leastOddRound 84 (.goto (-80)) 3 (-80) 87 4 := ⟨by decide +kernel, rfl, by decide⟩
theorem e_X6_leastOddRound_28 : kk_d cX6_leastOddRound 28 (.aload_n 0) 1 29 := ⟨by decide +kernel, rfl⟩
theorem e_X6_leastOddRound_29 : kk_d cX6_leastOddRound 29 (.iload_n 3) 1 30 := ⟨by decide +kernel, rfl⟩
theorem e_X6_leastOddRound_30 : kk_d cX6_leastOddRound 30 (.invokevirtual 74) 3 33 := ⟨by decide +kernel, rfl⟩
theorem e_X6_leastOddRound_33 : kk_d cX6_leastOddRound 33 (.istore_n 3) 1 34 := ⟨by decide +kernel, rfl⟩
theorem e_X6_leastOddRound_34 : kk_d cX6_leastOddRound 34 (.iload 4) 2 36 := ⟨by decide +kernel, rfl⟩
theorem e_X6_leastOddRound_36 : kk_d cX6_leastOddRound 36 (.iconst 2) 1 37 := ⟨by decide +kernel, rfl⟩
theorem e_X6_leastOddRound_37 : kk_d cX6_leastOddRound 37 .irem 1 38 := ⟨by decide +kernel, rfl⟩
theorem e_X6_leastOddRound_38 : kk_d cX6_leastOddRound 38 (.iconst 1) 1 39 := ⟨by decide +kernel, rfl⟩
theorem e_X6_leastOddRound_39 : kk_dj cX6_leastOddRound 39 (.if_icmp .ne 15) 3 (15) 42 54 := ⟨by decide +kernel, rfl, by decide⟩
theorem e_X6_leastOddRound_55 : kk_d cX6_leastOddRound 55 (.istore 5) 2 57 := ⟨by decide +kernel, rfl⟩
theorem e_X6_leastOddRound_57 : kk_d cX6_leastOddRound 57 (.iload 5) 2 59 := ⟨by decide +kernel, rfl⟩
theorem e_X6_leastOddRound_59 : kk_dj cX6_leastOddRound 59 (.ifCond .eq 16) 3 (16) 62 75 := ⟨by decide +kernel, rfl, by decide⟩
theorem e_X6_leastOddRound_75 : kk_d cX6_leastOddRound 75 (.iinc 4 1) 3 78 := ⟨by decide +kernel, rfl⟩
theorem e_X6_leastOddRound_78 : kk_dj cX6_leastOddRound 78 (.goto (-59)) 3 (-59) 81 19 := ⟨by decide +kernel, rfl, by decide⟩
theorem e_X6_leastOddRound_62 : kk_d cX6_leastOddRound 62 (.iload_n 1) 1 63 := ⟨by decide +kernel, rfl⟩
theorem e_X6_leastOddRound_63 : kk_dj cX6_leastOddRound 63 (.ifCond .eq 9) 3 (9) 66 72 := ⟨by decide +kernel, rfl, by decide⟩
theorem e_X6_leastOddRound_72 : kk_d cX6_leastOddRound 72 (.iload 4) 2 74 := ⟨by decide +kernel, rfl⟩
theorem e_X6_leastOddRound_74 : kk_d cX6_leastOddRound 74 (.istore_n 1) 1 75 := ⟨by decide +kernel, rfl⟩
theorem e_X6_leastOddRound_66 : kk_d cX6_leastOddRound 66 (.iload 4) 2 68 := ⟨by decide +kernel, rfl⟩
theorem e_X6_leastOddRound_68 : kk_d cX6_leastOddRound 68 (.iload_n 1) 1 69 := ⟨by decide +kernel, rfl⟩
theorem e_X6_leastOddRound_69 : kk_dj cX6_leastOddRound 69 (.if_icmp .ge 6) 3 (6) 72 75 := ⟨by decide +kernel, rfl, by decide⟩
theorem e_X6_leastOddRound_54 : kk_d cX6_leastOddRound 54 (.iconst 0) 1 55 := ⟨by decide +kernel, rfl⟩
theorem e_X6_leastOddRound_42 : kk_d cX6_leastOddRound 42 (.iload_n 3) 1 43 := ⟨by decide +kernel, rfl⟩
theorem e_X6_leastOddRound_43 : kk_d cX6_leastOddRound 43 (.iload_n 2) 1 44 := ⟨by decide +kernel, rfl⟩
theorem e_X6_leastOddRound_44 : kk_d cX6_leastOddRound 44 .ishr 1 45 := ⟨by decide +kernel, rfl⟩
theorem e_X6_leastOddRound_45 : kk_d cX6_leastOddRound 45 (.iconst 1) 1 46 := ⟨by decide +kernel, rfl⟩
theorem e_X6_leastOddRound_46 : kk_d cX6_leastOddRound 46 .iand 1 47 := ⟨by decide +kernel, rfl⟩
theorem e_X6_leastOddRound_47 : kk_dj cX6_leastOddRound 47 (.ifCond .eq 7) 3 (7) 50 54 := ⟨by decide +kernel, rfl, by decide⟩
theorem e_X6_leastOddRound_50 : kk_d cX6_leastOddRound 50 (.iconst 1) 1 51 := ⟨by decide +kernel, rfl⟩
theorem e_X6_leastOddRound_51 : kk_dj cX6_leastOddRound 51 (.goto 4) 3 (4) 54 55 := ⟨by decide +kernel, rfl, by decide⟩
set_option maxRecDepth 4000 in
theorem s_X6_leastOddRound (Z : kk_Z) (σ : kk_St) (Q : Int32 → Prop) (h : f_X6_leastOddRound σ Q) : kk_M Z sh_C yX6_leastOddRound cX6_leastOddRound 6 (some .int) (kk_R 3) [.ref (Z.2.1 1)] σ (kk_Qi Z sh_C (fun r σ' => σ' = σ ∧ Q r)) := by
  unfold f_X6_leastOddRound at h
  refine kk_met (own := RX6) (by decide) rfl (Nat.le_of_ble_eq_true rfl) rfl ?_
  refine kk_iconst ic_0 e_X6_leastOddRound_0 ?_
  refine kk_istore_n (lv' := [(1, .int (0 : Int32)), (0, .ref (Z.2.1 1))]) e_X6_leastOddRound_1 rfl (by decide) rfl ?_
  refine kk_iconst ic_0 e_X6_leastOddRound_2 ?_
  refine kk_istore_n (lv' := [(2, .int (0 : Int32)), (1, .int (0 : Int32)), (0, .ref (Z.2.1 1))]) e_X6_leastOddRound_3 rfl (by decide) rfl ?_
  refine kk_sub [2, 1, 0] rfl ?_
  refine kk_lpW2 (P := fun (v1_1 : Int32) (v2_2 : Int32) => KK Z sh_C RX6 cX6_leastOddRound 6 (some .int) (kk_R 3) (kk_Qi Z sh_C (fun r σ' => σ' = σ ∧ Q r)) 4 [(0, .ref (Z.2.1 1)), (1, .int v1_1), (2, .int v2_2)] [] σ) ?_ h
  intro rec_3 hrec_3 v1_1 v2_2 h
  refine kk_iload_n 2 rfl e_X6_leastOddRound_4 ?_
  refine kk_aload_n 0 rfl e_X6_leastOddRound_5 ?_
  refine kk_geti e_X6_leastOddRound_6 fl_X6_27 rfl rfl ?_
  refine kk_icmp_ge e_X6_leastOddRound_9 (fun c_22 => ?_) (fun c_22 => ?_)
  · replace h := h.1 c_22
    refine kk_iload_n 1 rfl e_X6_leastOddRound_87 ?_
    exact kk_iret e_X6_leastOddRound_88 ⟨rfl, h⟩
  · replace h := h.2 c_22
    refine kk_iconst ic_1 e_X6_leastOddRound_12 ?_
    refine kk_iload_n 2 rfl e_X6_leastOddRound_13 ?_
    refine kk_ishl e_X6_leastOddRound_14 ?_
    refine kk_topi (fun v3_4 ev3_4 => ?_)
    replace h := h v3_4 ev3_4
    refine kk_istore_n (lv' := [(3, .int v3_4), (0, .ref (Z.2.1 1)), (1, .int v1_1), (2, .int v2_2)]) e_X6_leastOddRound_15 rfl (by decide) rfl ?_
    refine kk_iconst ic_1 e_X6_leastOddRound_16 ?_
    refine kk_istore (lv' := [(4, .int (1 : Int32)), (3, .int v3_4), (0, .ref (Z.2.1 1)), (1, .int v1_1), (2, .int v2_2)]) e_X6_leastOddRound_17 (by decide) rfl ?_
    refine kk_sub [2, 3, 4, 1, 0] rfl ?_
    refine kk_lpW3 (P := fun (v1_5 : Int32) (v3_6 : Int32) (v4_7 : Int32) => KK Z sh_C RX6 cX6_leastOddRound 6 (some .int) (kk_R 3) (kk_Qi Z sh_C (fun r σ' => σ' = σ ∧ Q r)) 19 [(0, .ref (Z.2.1 1)), (1, .int v1_5), (2, .int v2_2), (3, .int v3_6), (4, .int v4_7)] [] σ) ?_ h
    intro rec_8 hrec_8 v1_5 v3_6 v4_7 h
    refine kk_iload 4 rfl e_X6_leastOddRound_19 ?_
    refine kk_aload_n 0 rfl e_X6_leastOddRound_21 ?_
    refine kk_geti e_X6_leastOddRound_22 fl_X6_27 rfl rfl ?_
    refine kk_icmp_gt e_X6_leastOddRound_25 (fun c_21 => ?_) (fun c_21 => ?_)
    · replace h := h.1 c_21
      refine kk_iinc (lv' := [(2, .int (v2_2 + (1 : Int32))), (0, .ref (Z.2.1 1)), (1, .int v1_5), (3, .int v3_6), (4, .int v4_7)]) e_X6_leastOddRound_81 (j := 2) rfl (ii_1 v2_2) (by decide) rfl ?_
      refine kk_goto e_X6_leastOddRound_84 ?_
      exact kk_sub [1, 2, 0] rfl (hrec_3 v1_5 (v2_2 + (1 : Int32)) h)
    · replace h := h.2 c_21
      refine kk_aload_n 0 rfl e_X6_leastOddRound_28 ?_
      refine kk_iload_n 3 rfl e_X6_leastOddRound_29 ?_
      refine kk_callVip (As := [.int v3_6]) (rest := []) e_X6_leastOddRound_30 ml_X6_74 ⟨_, _, _, _, rfl, rfl⟩ rfl (kk_fitR (by decide) (by decide)) (Nat.le_of_ble_eq_true rfl) rfl (s_X6_neighbours Z v3_6 σ _ h) (fun r_9 h => ?_)
      refine kk_istore_n (lv' := [(3, .int r_9), (0, .ref (Z.2.1 1)), (1, .int v1_5), (2, .int v2_2), (4, .int v4_7)]) e_X6_leastOddRound_33 rfl (by decide) rfl ?_
      refine kk_iload 4 rfl e_X6_leastOddRound_34 ?_
      refine kk_iconst ic_2 e_X6_leastOddRound_36 ?_
      refine kk_irem nz_2 e_X6_leastOddRound_37 ?_
      refine kk_iconst ic_1 e_X6_leastOddRound_38 ?_
      refine kk_jW1 (P := fun (t_10 : Int32) => KK Z sh_C RX6 cX6_leastOddRound 6 (some .int) (kk_R 3) (kk_Qi Z sh_C (fun r σ' => σ' = σ ∧ Q r)) 55 [(0, .ref (Z.2.1 1)), (1, .int v1_5), (2, .int v2_2), (3, .int r_9), (4, .int v4_7)] [.int t_10] σ) h ?_ ?_
      · intro t_10 h
        refine kk_istore (lv' := [(5, .int t_10), (0, .ref (Z.2.1 1)), (1, .int v1_5), (2, .int v2_2), (3, .int r_9), (4, .int v4_7)]) e_X6_leastOddRound_55 (by decide) rfl ?_
        refine kk_iload 0 rfl e_X6_leastOddRound_57 ?_
        refine kk_jW1 (P := fun (v1_12 : Int32) => KK Z sh_C RX6 cX6_leastOddRound 6 (some .int) (kk_R 3) (kk_Qi Z sh_C (fun r σ' => σ' = σ ∧ Q r)) 75 [(0, .ref (Z.2.1 1)), (1, .int v1_12), (2, .int v2_2), (3, .int r_9), (4, .int v4_7)] [] σ) h ?_ ?_
        · intro v1_12 h
          refine kk_iinc (lv' := [(4, .int (v4_7 + (1 : Int32))), (0, .ref (Z.2.1 1)), (1, .int v1_12), (2, .int v2_2), (3, .int r_9)]) e_X6_leastOddRound_75 (j := 4) rfl (ii_1 v4_7) (by decide) rfl ?_
          refine kk_goto e_X6_leastOddRound_78 ?_
          exact kk_sub [1, 2, 3, 4, 0] rfl (hrec_8 v1_12 r_9 (v4_7 + (1 : Int32)) h)
        · intro J_13 hJ_13 h
          refine kk_if_eq e_X6_leastOddRound_59 (fun c_17 => ?_) (fun c_17 => ?_)
          · replace h := h.1 c_17
            exact kk_sub [1, 2, 3, 4, 5] rfl (hJ_13 v1_5 h)
          · replace h := h.2 c_17
            refine kk_iload_n 2 rfl e_X6_leastOddRound_62 ?_
            refine kk_jW0 (P := KK Z sh_C RX6 cX6_leastOddRound 6 (some .int) (kk_R 3) (kk_Qi Z sh_C (fun r σ' => σ' = σ ∧ Q r)) 72 [(0, .ref (Z.2.1 1)), (2, .int v2_2), (3, .int r_9), (4, .int v4_7)] [] σ) h ?_ ?_
            · intro h
              refine kk_iload 3 rfl e_X6_leastOddRound_72 ?_
              refine kk_istore_n (lv' := [(1, .int v4_7), (0, .ref (Z.2.1 1)), (2, .int v2_2), (3, .int r_9), (4, .int v4_7)]) e_X6_leastOddRound_74 rfl (by decide) rfl ?_
              exact kk_sub [1, 0, 2, 3, 4] rfl (hJ_13 v4_7 h)
            · intro J_14 hJ_14 h
              refine kk_if_eq e_X6_leastOddRound_63 (fun c_16 => ?_) (fun c_16 => ?_)
              · replace h := h.1 c_16
                exact kk_sub [1, 3, 4, 5] rfl (hJ_14 h)
              · replace h := h.2 c_16
                refine kk_iload 5 rfl e_X6_leastOddRound_66 ?_
                refine kk_iload_n 2 rfl e_X6_leastOddRound_68 ?_
                refine kk_icmp_ge e_X6_leastOddRound_69 (fun c_15 => ?_) (fun c_15 => ?_)
                · replace h := h.1 c_15
                  exact kk_sub [1, 2, 3, 4, 5] rfl (hJ_13 v1_5 h)
                · replace h := h.2 c_15
                  exact kk_sub [1, 3, 4, 5] rfl (hJ_14 h)
      · intro J_11 hJ_11 h
        refine kk_jW0 (P := KK Z sh_C RX6 cX6_leastOddRound 6 (some .int) (kk_R 3) (kk_Qi Z sh_C (fun r σ' => σ' = σ ∧ Q r)) 54 [(0, .ref (Z.2.1 1)), (1, .int v1_5), (2, .int v2_2), (3, .int r_9), (4, .int v4_7)] [] σ) h ?_ ?_
        · intro h
          refine kk_iconst ic_0 e_X6_leastOddRound_54 ?_
          exact kk_sub [0, 1, 2, 3, 4] rfl (hJ_11 (0 : Int32) h)
        · intro J_18 hJ_18 h
          refine kk_icmp_ne e_X6_leastOddRound_39 (fun c_20 => ?_) (fun c_20 => ?_)
          · replace h := h.1 c_20
            exact kk_sub [1, 2, 3, 0, 4] rfl (hJ_18 h)
          · replace h := h.2 c_20
            refine kk_iload_n 0 rfl e_X6_leastOddRound_42 ?_
            refine kk_iload_n 3 rfl e_X6_leastOddRound_43 ?_
            refine kk_ishr e_X6_leastOddRound_44 ?_
            refine kk_iconst ic_1 e_X6_leastOddRound_45 ?_
            refine kk_iand e_X6_leastOddRound_46 ?_
            refine kk_if_eq e_X6_leastOddRound_47 (fun c_19 => ?_) (fun c_19 => ?_)
            · replace h := h.1 c_19
              exact kk_sub [1, 2, 3, 0, 4] rfl (hJ_18 h)
            · replace h := h.2 c_19
              refine kk_iconst ic_1 e_X6_leastOddRound_50 ?_
              refine kk_goto e_X6_leastOddRound_51 ?_
              exact kk_sub [1, 2, 3, 0, 4] rfl (hJ_11 (1 : Int32) h)
theorem e_X10_sides_0 : kk_d cX10_sides 0 (.aload_n 0) 1 1 := ⟨by decide +kernel, rfl⟩
theorem e_X10_sides_1 : kk_d cX10_sides 1 (.getfield 10) 3 4 := ⟨by decide +kernel, rfl⟩
theorem e_X10_sides_4 : kk_d cX10_sides 4 (.invokevirtual 166) 3 7 := ⟨by decide +kernel, rfl⟩
theorem e_X10_sides_7 : kk_d cX10_sides 7 (.istore_n 2) 1 8 := ⟨by decide +kernel, rfl⟩
theorem e_X10_sides_8 : kk_d cX10_sides 8 (.iload_n 1) 1 9 := ⟨by decide +kernel, rfl⟩
theorem e_X10_sides_9 : decode cX10_sides 9 = .ok (.tableswitch 56 0 2 #[27, 37, 48], 27) := by decide +kernel
theorem e_X10_sides_36 : kk_d cX10_sides 36 (.iload_n 2) 1 37 := ⟨by decide +kernel, rfl⟩
theorem e_X10_sides_37 : kk_dj cX10_sides 37 (.ifCond .eq 7) 3 (7) 40 44 := ⟨by decide +kernel, rfl, by decide⟩
theorem e_X10_sides_45 : kk_d cX10_sides 45 .ireturn 1 46 := ⟨by decide +kernel, rfl⟩
theorem e_X10_sides_44 : kk_d cX10_sides 44 (.iconst 0) 1 45 := ⟨by decide +kernel, rfl⟩
theorem e_X10_sides_40 : kk_d cX10_sides 40 (.iconst 1) 1 41 := ⟨by decide +kernel, rfl⟩
theorem e_X10_sides_41 : kk_dj cX10_sides 41 (.goto 4) 3 (4) 44 45 := ⟨by decide +kernel, rfl, by decide⟩
theorem e_X10_sides_46 : kk_d cX10_sides 46 (.iload_n 2) 1 47 := ⟨by decide +kernel, rfl⟩
theorem e_X10_sides_47 : kk_dj cX10_sides 47 (.ifCond .eq 7) 3 (7) 50 54 := ⟨by decide +kernel, rfl, by decide⟩
theorem e_X10_sides_56 : kk_d cX10_sides 56 .ireturn 1 57 := ⟨by decide +kernel, rfl⟩
theorem e_X10_sides_54 : kk_d cX10_sides 54 (.bipush (-2)) 2 56 := ⟨by decide +kernel, rfl⟩
theorem e_X10_sides_50 : kk_d cX10_sides 50 (.iload_n 2) 1 51 := ⟨by decide +kernel, rfl⟩
theorem e_X10_sides_51 : kk_dj cX10_sides 51 (.goto 5) 3 (5) 54 56 := ⟨by decide +kernel, rfl, by decide⟩
theorem e_X10_sides_57 : kk_d cX10_sides 57 (.aload_n 0) 1 58 := ⟨by decide +kernel, rfl⟩
theorem e_X10_sides_58 : kk_d cX10_sides 58 (.getfield 10) 3 61 := ⟨by decide +kernel, rfl⟩
theorem e_X10_sides_61 : kk_d cX10_sides 61 (.invokevirtual 314) 3 64 := ⟨by decide +kernel, rfl⟩
theorem e_X10_sides_64 : kk_d cX10_sides 64 .ireturn 1 65 := ⟨by decide +kernel, rfl⟩
theorem e_X10_sides_65 : kk_d cX10_sides 65 (.iconst (-1)) 1 66 := ⟨by decide +kernel, rfl⟩
theorem e_X10_sides_66 : kk_d cX10_sides 66 .ireturn 1 67 := ⟨by decide +kernel, rfl⟩
set_option maxRecDepth 4000 in
theorem s_X10_sides (Z : kk_Z) (v1 : Int32) (σ : kk_St) (Q : Int32 → Prop) (h : f_X10_sides v1 σ Q) : kk_M Z sh_C yX10_sides cX10_sides 3 (some .int) (kk_R 4) [.ref (Z.2.1 0), .int v1] σ (kk_Qi Z sh_C (fun r σ' => σ' = σ ∧ Q r)) := by
  unfold f_X10_sides at h
  refine kk_met (own := RX10) (by decide) rfl (Nat.le_of_ble_eq_true rfl) rfl ?_
  refine kk_aload_n 0 rfl e_X10_sides_0 ?_
  refine kk_getr e_X10_sides_1 fl_X10_10 rfl rfl ?_
  refine kk_callVip (As := []) (rest := []) e_X10_sides_4 ml_X10_166 ⟨_, _, _, _, rfl, rfl⟩ rfl (kk_fitR (by decide) (by decide)) (Nat.le_of_ble_eq_true rfl) rfl (s_X6_onePart Z σ _ h) (fun r_1 h => ?_)
  refine kk_istore_n (lv' := [(2, .int r_1), (0, .ref (Z.2.1 0)), (1, .int v1)]) e_X10_sides_7 rfl (by decide) rfl ?_
  refine kk_iload_n 2 rfl e_X10_sides_8 ?_
  rcases kk_swc v1 3 (by decide) with ⟨i, hi, hx⟩ | hx
  · rcases (show i = 0 ∨ i = 1 ∨ i = 2 by omega) with rfl | rfl | rfl
    · replace h := h.1 hx
      refine kk_swIn (tgt := 36) e_X10_sides_9 0 hx (by decide) (by decide) rfl (by decide) ?_
      refine kk_iload_n 0 rfl e_X10_sides_36 ?_
      refine kk_jW1 (P := fun (t_2 : Int32) => KK Z sh_C RX10 cX10_sides 3 (some .int) (kk_R 4) (kk_Qi Z sh_C (fun r σ' => σ' = σ ∧ Q r)) 45 [] [.int t_2] σ) h ?_ ?_
      · intro t_2 h
        exact kk_iret e_X10_sides_45 ⟨rfl, h⟩
      · intro J_3 hJ_3 h
        refine kk_if_eq e_X10_sides_37 (fun c_4 => ?_) (fun c_4 => ?_)
        · replace h := h.1 c_4
          refine kk_iconst ic_0 e_X10_sides_44 ?_
          exact kk_sub [] rfl (hJ_3 (0 : Int32) h)
        · replace h := h.2 c_4
          refine kk_iconst ic_1 e_X10_sides_40 ?_
          refine kk_goto e_X10_sides_41 ?_
          exact kk_sub [] rfl (hJ_3 (1 : Int32) h)
    · replace h := h.2.1 hx
      refine kk_swIn (tgt := 46) e_X10_sides_9 1 hx (by decide) (by decide) rfl (by decide) ?_
      refine kk_iload_n 0 rfl e_X10_sides_46 ?_
      refine kk_jW1 (P := fun (t_5 : Int32) => KK Z sh_C RX10 cX10_sides 3 (some .int) (kk_R 4) (kk_Qi Z sh_C (fun r σ' => σ' = σ ∧ Q r)) 56 [] [.int t_5] σ) h ?_ ?_
      · intro t_5 h
        exact kk_iret e_X10_sides_56 ⟨rfl, h⟩
      · intro J_6 hJ_6 h
        refine kk_if_eq e_X10_sides_47 (fun c_7 => ?_) (fun c_7 => ?_)
        · replace h := h.1 c_7
          refine kk_bipush bp_m2 e_X10_sides_54 ?_
          exact kk_sub [] rfl (hJ_6 (-2 : Int32) h)
        · replace h := h.2 c_7
          refine kk_iload_n 0 rfl e_X10_sides_50 ?_
          refine kk_goto e_X10_sides_51 ?_
          exact kk_sub [] rfl (hJ_6 r_1 h)
    · replace h := h.2.2.1 hx
      refine kk_swIn (tgt := 57) e_X10_sides_9 2 hx (by decide) (by decide) rfl (by decide) ?_
      refine kk_aload_n 1 rfl e_X10_sides_57 ?_
      refine kk_getr e_X10_sides_58 fl_X10_10 rfl rfl ?_
      refine kk_callVip (As := []) (rest := []) e_X10_sides_61 ml_X10_314 ⟨_, _, _, _, rfl, rfl⟩ rfl (kk_fitR (by decide) (by decide)) (Nat.le_of_ble_eq_true rfl) rfl (s_X6_leastOddRound Z σ _ h) (fun r_8 h => ?_)
      exact kk_iret e_X10_sides_64 ⟨rfl, h⟩
  · replace h := h.2.2.2 (by omega)
    refine kk_swOut (tgt := 65) e_X10_sides_9 (by omega) (by decide) ?_
    refine kk_iconst ic_m1 e_X10_sides_65 ?_
    exact kk_iret e_X10_sides_66 ⟨rfl, h⟩
theorem e_X10_swap_0 : kk_d cX10_swap 0 (.aload_n 0) 1 1 := ⟨by decide +kernel, rfl⟩
theorem e_X10_swap_1 : kk_d cX10_swap 1 (.getfield 21) 3 4 := ⟨by decide +kernel, rfl⟩
theorem e_X10_swap_4 : kk_d cX10_swap 4 (.iload_n 1) 1 5 := ⟨by decide +kernel, rfl⟩
theorem e_X10_swap_5 : kk_d cX10_swap 5 (.iload_n 2) 1 6 := ⟨by decide +kernel, rfl⟩
theorem e_X10_swap_6 : kk_d cX10_swap 6 (.invokevirtual 143) 3 9 := ⟨by decide +kernel, rfl⟩
theorem e_X10_swap_9 : kk_dj cX10_swap 9 (.ifCond .ne 5) 3 (5) 12 14 := ⟨by decide +kernel, rfl, by decide⟩
theorem e_X10_swap_14 : kk_d cX10_swap 14 (.aload_n 0) 1 15 := ⟨by decide +kernel, rfl⟩
theorem e_X10_swap_15 : kk_d cX10_swap 15 (.getfield 21) 3 18 := ⟨by decide +kernel, rfl⟩
theorem e_X10_swap_18 : kk_d cX10_swap 18 (.getfield 160) 3 21 := ⟨by decide +kernel, rfl⟩
theorem e_X10_swap_21 : kk_d cX10_swap 21 (.iload_n 1) 1 22 := ⟨by decide +kernel, rfl⟩
theorem e_X10_swap_22 : kk_d cX10_swap 22 .iaload 1 23 := ⟨by decide +kernel, rfl⟩
theorem e_X10_swap_23 : kk_d cX10_swap 23 (.aload_n 0) 1 24 := ⟨by decide +kernel, rfl⟩
theorem e_X10_swap_24 : kk_d cX10_swap 24 (.getfield 21) 3 27 := ⟨by decide +kernel, rfl⟩
theorem e_X10_swap_27 : kk_d cX10_swap 27 (.getfield 160) 3 30 := ⟨by decide +kernel, rfl⟩
theorem e_X10_swap_30 : kk_d cX10_swap 30 (.iload_n 2) 1 31 := ⟨by decide +kernel, rfl⟩
theorem e_X10_swap_31 : kk_d cX10_swap 31 .iaload 1 32 := ⟨by decide +kernel, rfl⟩
theorem e_X10_swap_32 : kk_d cX10_swap 32 .ior 1 33 := ⟨by decide +kernel, rfl⟩
theorem e_X10_swap_33 : kk_d cX10_swap 33 (.istore_n 3) 1 34 := ⟨by decide +kernel, rfl⟩
theorem e_X10_swap_34 : kk_d cX10_swap 34 (.aload_n 0) 1 35 := ⟨by decide +kernel, rfl⟩
theorem e_X10_swap_35 : kk_d cX10_swap 35 (.getfield 21) 3 38 := ⟨by decide +kernel, rfl⟩
theorem e_X10_swap_38 : kk_d cX10_swap 38 (.iload_n 3) 1 39 := ⟨by decide +kernel, rfl⟩
theorem e_X10_swap_39 : kk_d cX10_swap 39 (.iload_n 1) 1 40 := ⟨by decide +kernel, rfl⟩
theorem e_X10_swap_40 : kk_d cX10_swap 40 (.iload_n 2) 1 41 := ⟨by decide +kernel, rfl⟩
theorem e_X10_swap_41 : kk_d cX10_swap 41 (.invokevirtual 151) 3 44 := ⟨by decide +kernel, rfl⟩
theorem e_X10_swap_44 : kk_d cX10_swap 44 (.iload_n 3) 1 45 := ⟨by decide +kernel, rfl⟩
theorem e_X10_swap_45 : kk_d cX10_swap 45 (.invokestatic 155) 3 48 := ⟨by decide +kernel, rfl⟩
theorem e_X10_swap_48 : kk_d cX10_swap 48 .ireturn 1 49 := ⟨by decide +kernel, rfl⟩
theorem e_X10_swap_12 : kk_d cX10_swap 12 (.iconst (-1)) 1 13 := ⟨by decide +kernel, rfl⟩
theorem e_X10_swap_13 : kk_d cX10_swap 13 .ireturn 1 14 := ⟨by decide +kernel, rfl⟩
set_option maxRecDepth 4000 in
theorem s_X10_swap (Z : kk_Z) (v1 : Int32) (v2 : Int32) (σ : kk_St) (Q : Int32 → kk_St → Prop) (h : f_X10_swap v1 v2 σ Q) : kk_M Z sh_C yX10_swap cX10_swap 4 (some .int) (kk_R 5) [.ref (Z.2.1 0), .int v1, .int v2] σ (kk_Qi Z sh_C Q) := by
  unfold f_X10_swap at h
  refine kk_met (own := RX10) (by decide) rfl (Nat.le_of_ble_eq_true rfl) rfl ?_
  refine kk_aload_n 0 rfl e_X10_swap_0 ?_
  refine kk_getr e_X10_swap_1 fl_X10_21 rfl rfl ?_
  refine kk_iload_n 1 rfl e_X10_swap_4 ?_
  refine kk_iload_n 2 rfl e_X10_swap_5 ?_
  refine kk_callVip (As := [.int v1, .int v2]) (rest := []) e_X10_swap_6 ml_X10_143 ⟨_, _, _, _, rfl, rfl⟩ rfl (kk_fitR (by decide) (by decide)) (Nat.le_of_ble_eq_true rfl) rfl (s_X3_areUnlike Z v1 v2 σ _ h) (fun r_1 h => ?_)
  refine kk_if_ne e_X10_swap_9 (fun c_5 => ?_) (fun c_5 => ?_)
  · replace h := h.1 c_5
    refine kk_aload_n 0 rfl e_X10_swap_14 ?_
    refine kk_getr e_X10_swap_15 fl_X10_21 rfl rfl ?_
    refine kk_getr e_X10_swap_18 fl_X10_160 rfl rfl ?_
    refine kk_iload_n 1 rfl e_X10_swap_21 ?_
    refine kk_iald e_X10_swap_22 rfl h.1 ?_
    replace h := h.2
    refine kk_aload_n 0 rfl e_X10_swap_23 ?_
    refine kk_getr e_X10_swap_24 fl_X10_21 rfl rfl ?_
    refine kk_getr e_X10_swap_27 fl_X10_160 rfl rfl ?_
    refine kk_iload_n 2 rfl e_X10_swap_30 ?_
    refine kk_iald e_X10_swap_31 rfl h.1 ?_
    replace h := h.2
    refine kk_ior e_X10_swap_32 ?_
    refine kk_topi (fun v3_2 ev3_2 => ?_)
    replace h := h v3_2 ev3_2
    refine kk_istore_n (lv' := [(3, .int v3_2), (0, .ref (Z.2.1 0)), (1, .int v1), (2, .int v2)]) e_X10_swap_33 rfl (by decide) rfl ?_
    refine kk_aload_n 1 rfl e_X10_swap_34 ?_
    refine kk_getr e_X10_swap_35 fl_X10_21 rfl rfl ?_
    refine kk_iload_n 0 rfl e_X10_swap_38 ?_
    refine kk_iload_n 2 rfl e_X10_swap_39 ?_
    refine kk_iload_n 3 rfl e_X10_swap_40 ?_
    refine kk_callVv (As := [.int v3_2, .int v1, .int v2]) (rest := []) e_X10_swap_41 ml_X10_151 ⟨_, _, _, _, rfl, rfl⟩ rfl (kk_fitR (by decide) (by decide)) (Nat.le_of_ble_eq_true rfl) rfl (s_X3_flip Z v3_2 v1 v2 σ _ h) (fun σ_3 h => ?_)
    refine kk_iload_n 0 rfl e_X10_swap_44 ?_
    refine kk_callSip (As := [.int v3_2]) (rest := []) e_X10_swap_45 ml_X10_155 rfl (kk_fitR (by decide) (by decide)) (Nat.le_of_ble_eq_true rfl) rfl (s_J6_bitCount_0f7a4 Z v3_2 σ_3 _ h) (fun r_4 h => ?_)
    exact kk_iret e_X10_swap_48 h
  · replace h := h.2 c_5
    refine kk_iconst ic_m1 e_X10_swap_12 ?_
    exact kk_iret e_X10_swap_13 h
theorem e_X10_take_0 : kk_d cX10_take 0 (.iload_n 1) 1 1 := ⟨by decide +kernel, rfl⟩
theorem e_X10_take_1 : kk_dj cX10_take 1 (.ifCond .lt 25) 3 (25) 4 26 := ⟨by decide +kernel, rfl, by decide⟩
theorem e_X10_take_26 : kk_d cX10_take 26 (.iconst 0) 1 27 := ⟨by decide +kernel, rfl⟩
theorem e_X10_take_27 : kk_d cX10_take 27 .ireturn 1 28 := ⟨by decide +kernel, rfl⟩
theorem e_X10_take_4 : kk_d cX10_take 4 (.iload_n 1) 1 5 := ⟨by decide +kernel, rfl⟩
theorem e_X10_take_5 : kk_d cX10_take 5 (.aload_n 0) 1 6 := ⟨by decide +kernel, rfl⟩
theorem e_X10_take_6 : kk_d cX10_take 6 (.getfield 21) 3 9 := ⟨by decide +kernel, rfl⟩
theorem e_X10_take_9 : kk_d cX10_take 9 (.invokevirtual 176) 3 12 := ⟨by decide +kernel, rfl⟩
theorem e_X10_take_12 : kk_dj cX10_take 12 (.if_icmp .gt 14) 3 (14) 15 26 := ⟨by decide +kernel, rfl, by decide⟩
theorem e_X10_take_15 : kk_d cX10_take 15 (.aload_n 0) 1 16 := ⟨by decide +kernel, rfl⟩
theorem e_X10_take_16 : kk_d cX10_take 16 (.getfield 60) 3 19 := ⟨by decide +kernel, rfl⟩
theorem e_X10_take_19 : kk_d cX10_take 19 (.iload_n 1) 1 20 := ⟨by decide +kernel, rfl⟩
theorem e_X10_take_20 : kk_d cX10_take 20 (.invokevirtual 179) 3 23 := ⟨by decide +kernel, rfl⟩
theorem e_X10_take_23 : kk_dj cX10_take 23 (.ifCond .ne 5) 3 (5) 26 28 := ⟨by decide +kernel, rfl, by decide⟩
theorem e_X10_take_28 : kk_d cX10_take 28 (.aload_n 0) 1 29 := ⟨by decide +kernel, rfl⟩
theorem e_X10_take_29 : kk_d cX10_take 29 (.getfield 21) 3 32 := ⟨by decide +kernel, rfl⟩
theorem e_X10_take_32 : kk_d cX10_take 32 (.invokevirtual 100) 3 35 := ⟨by decide +kernel, rfl⟩
theorem e_X10_take_35 : kk_d cX10_take 35 (.iconst 0) 1 36 := ⟨by decide +kernel, rfl⟩
theorem e_X10_take_36 : kk_d cX10_take 36 (.istore_n 2) 1 37 := ⟨by decide +kernel, rfl⟩
theorem e_X10_take_37 : kk_d cX10_take 37 (.iload_n 2) 1 38 := ⟨by decide +kernel, rfl⟩
theorem e_X10_take_38 : kk_d cX10_take 38 (.aload_n 0) 1 39 := ⟨by decide +kernel, rfl⟩
theorem e_X10_take_39 : kk_d cX10_take 39 (.getfield 10) 3 42 := ⟨by decide +kernel, rfl⟩
theorem e_X10_take_42 : kk_d cX10_take 42 (.getfield 112) 3 45 := ⟨by decide +kernel, rfl⟩
theorem e_X10_take_45 : kk_dj cX10_take 45 (.if_icmp .ge 26) 3 (26) 48 71 := ⟨by decide +kernel, rfl, by decide⟩
theorem e_X10_take_71 : kk_d cX10_take 71 (.iconst 1) 1 72 := ⟨by decide +kernel, rfl⟩
theorem e_X10_take_72 : kk_d cX10_take 72 .ireturn 1 73 := ⟨by decide +kernel, rfl⟩
theorem e_X10_take_48 : kk_d cX10_take 48 (.aload_n 0) 1 49 := ⟨by decide +kernel, rfl⟩
theorem e_X10_take_49 : kk_d cX10_take 49 (.getfield 21) 3 52 := ⟨by decide +kernel, rfl⟩
theorem e_X10_take_52 : kk_d cX10_take 52 (.iload_n 2) 1 53 := ⟨by decide +kernel, rfl⟩
theorem e_X10_take_53 : kk_d cX10_take 53 (.aload_n 0) 1 54 := ⟨by decide +kernel, rfl⟩
theorem e_X10_take_54 : kk_d cX10_take 54 (.getfield 60) 3 57 := ⟨by decide +kernel, rfl⟩
theorem e_X10_take_57 : kk_d cX10_take 57 (.getfield 182) 3 60 := ⟨by decide +kernel, rfl⟩
theorem e_X10_take_60 : kk_d cX10_take 60 (.iload_n 2) 1 61 := ⟨by decide +kernel, rfl⟩
theorem e_X10_take_61 : kk_d cX10_take 61 .iaload 1 62 := ⟨by decide +kernel, rfl⟩
theorem e_X10_take_62 : kk_d cX10_take 62 (.invokevirtual 134) 3 65 := ⟨by decide +kernel, rfl⟩
theorem e_X10_take_65 : kk_d cX10_take 65 (.iinc 2 1) 3 68 := ⟨by decide +kernel, rfl⟩
theorem e_X10_take_68 : kk_dj cX10_take 68 (.goto (-31)) 3 (-31) 71 37 := ⟨by decide +kernel, rfl, by decide⟩
set_option maxRecDepth 4000 in
theorem s_X10_take (Z : kk_Z) (v1 : Int32) (σ : kk_St) (Q : Int32 → kk_St → Prop) (h : f_X10_take v1 σ Q) : kk_M Z sh_C yX10_take cX10_take 3 (some .boolean) (kk_R 70) [.ref (Z.2.1 0), .int v1] σ (kk_Qi Z sh_C Q) := by
  unfold f_X10_take at h
  refine kk_met (own := RX10) (by decide) rfl (Nat.le_of_ble_eq_true rfl) rfl ?_
  refine kk_iload_n 1 rfl e_X10_take_0 ?_
  refine kk_jW1 (P := fun (σ_1 : kk_St) => KK Z sh_C RX10 cX10_take 3 (some .boolean) (kk_R 70) (kk_Qi Z sh_C Q) 26 [] [] σ_1) h ?_ ?_
  · intro σ_1 h
    refine kk_iconst ic_0 e_X10_take_26 ?_
    exact kk_zret e_X10_take_27 (Or.inl rfl) h
  · intro J_2 hJ_2 h
    refine kk_if_lt e_X10_take_1 (fun c_14 => ?_) (fun c_14 => ?_)
    · replace h := h.1 c_14
      exact kk_sub [] rfl (hJ_2 σ h)
    · replace h := h.2 c_14
      refine kk_iload_n 1 rfl e_X10_take_4 ?_
      refine kk_aload_n 0 rfl e_X10_take_5 ?_
      refine kk_getr e_X10_take_6 fl_X10_21 rfl rfl ?_
      refine kk_callVip (As := []) (rest := [.int v1]) e_X10_take_9 ml_X10_176 ⟨_, _, _, _, rfl, rfl⟩ rfl (kk_fitR (by decide) (by decide)) (Nat.le_of_ble_eq_true rfl) rfl (s_X3_colours Z σ _ h) (fun r_3 h => ?_)
      refine kk_icmp_gt e_X10_take_12 (fun c_13 => ?_) (fun c_13 => ?_)
      · replace h := h.1 c_13
        exact kk_sub [] rfl (hJ_2 σ h)
      · replace h := h.2 c_13
        refine kk_aload_n 0 rfl e_X10_take_15 ?_
        refine kk_getr e_X10_take_16 fl_X10_60 rfl rfl ?_
        refine kk_iload_n 1 rfl e_X10_take_19 ?_
        refine kk_callVi (As := [.int v1]) (rest := []) e_X10_take_20 ml_X10_179 ⟨_, _, _, _, rfl, rfl⟩ rfl (kk_fitR (by decide) (by decide)) (Nat.le_of_ble_eq_true rfl) rfl (s_X7_findFirst Z v1 σ _ h) (fun r_4 σ_5 h => ?_)
        refine kk_if_ne e_X10_take_23 (fun c_12 => ?_) (fun c_12 => ?_)
        · replace h := h.1 c_12
          refine kk_aload_n 0 rfl e_X10_take_28 ?_
          refine kk_getr e_X10_take_29 fl_X10_21 rfl rfl ?_
          refine kk_callVv (As := []) (rest := []) e_X10_take_32 ml_X10_100 ⟨_, _, _, _, rfl, rfl⟩ rfl (kk_fitR (by decide) (by decide)) (Nat.le_of_ble_eq_true rfl) rfl (s_X3_clear Z σ_5 _ h) (fun σ_6 h => ?_)
          refine kk_iconst ic_0 e_X10_take_35 ?_
          refine kk_istore_n (lv' := [(2, .int (0 : Int32)), (0, .ref (Z.2.1 0)), (1, .int v1)]) e_X10_take_36 rfl (by decide) rfl ?_
          refine kk_sub [1, 0] rfl ?_
          refine kk_lpW2 (P := fun (v2_7 : Int32) (σ_8 : kk_St) => KK Z sh_C RX10 cX10_take 3 (some .boolean) (kk_R 70) (kk_Qi Z sh_C Q) 37 [(0, .ref (Z.2.1 0)), (2, .int v2_7)] [] σ_8) ?_ h
          intro rec_9 hrec_9 v2_7 σ_8 h
          refine kk_iload_n 1 rfl e_X10_take_37 ?_
          refine kk_aload_n 0 rfl e_X10_take_38 ?_
          refine kk_getr e_X10_take_39 fl_X10_10 rfl rfl ?_
          refine kk_geti e_X10_take_42 fl_X10_112 rfl rfl ?_
          refine kk_icmp_ge e_X10_take_45 (fun c_11 => ?_) (fun c_11 => ?_)
          · replace h := h.1 c_11
            refine kk_iconst ic_1 e_X10_take_71 ?_
            exact kk_zret e_X10_take_72 (Or.inr rfl) h
          · replace h := h.2 c_11
            refine kk_aload_n 0 rfl e_X10_take_48 ?_
            refine kk_getr e_X10_take_49 fl_X10_21 rfl rfl ?_
            refine kk_iload_n 1 rfl e_X10_take_52 ?_
            refine kk_aload_n 0 rfl e_X10_take_53 ?_
            refine kk_getr e_X10_take_54 fl_X10_60 rfl rfl ?_
            refine kk_getr e_X10_take_57 fl_X10_182 rfl rfl ?_
            refine kk_iload_n 1 rfl e_X10_take_60 ?_
            refine kk_iald e_X10_take_61 rfl h.1 ?_
            replace h := h.2
            refine kk_callVv (As := [.int v2_7, .int (kk_rd σ_8 22 v2_7)]) (rest := []) e_X10_take_62 ml_X10_134 ⟨_, _, _, _, rfl, rfl⟩ rfl (kk_fitR (by decide) (by decide)) (Nat.le_of_ble_eq_true rfl) rfl (s_X3_give Z v2_7 (kk_rd σ_8 22 v2_7) σ_8 _ h) (fun σ_10 h => ?_)
            refine kk_iinc (lv' := [(2, .int (v2_7 + (1 : Int32))), (0, .ref (Z.2.1 0))]) e_X10_take_65 (j := 1) rfl (ii_1 v2_7) (by decide) rfl ?_
            refine kk_goto e_X10_take_68 ?_
            exact kk_sub [1, 0] rfl (hrec_9 (v2_7 + (1 : Int32)) σ_10 h)
        · replace h := h.2 c_12
          exact kk_sub [] rfl (hJ_2 σ_5 h)
theorem e_X10_turn_0 : kk_d cX10_turn 0 (.aload_n 0) 1 1 := ⟨by decide +kernel, rfl⟩
theorem e_X10_turn_1 : kk_d cX10_turn 1 (.getfield 10) 3 4 := ⟨by decide +kernel, rfl⟩
theorem e_X10_turn_4 : kk_d cX10_turn 4 (.iload_n 1) 1 5 := ⟨by decide +kernel, rfl⟩
theorem e_X10_turn_5 : kk_d cX10_turn 5 (.invokevirtual 108) 3 8 := ⟨by decide +kernel, rfl⟩
theorem e_X10_turn_8 : kk_dj cX10_turn 8 (.ifCond .eq 15) 3 (15) 11 23 := ⟨by decide +kernel, rfl, by decide⟩
theorem e_X10_turn_23 : kk_d cX10_turn 23 (.iconst (-1)) 1 24 := ⟨by decide +kernel, rfl⟩
theorem e_X10_turn_24 : kk_d cX10_turn 24 .ireturn 1 25 := ⟨by decide +kernel, rfl⟩
theorem e_X10_turn_11 : kk_d cX10_turn 11 (.aload_n 0) 1 12 := ⟨by decide +kernel, rfl⟩
theorem e_X10_turn_12 : kk_d cX10_turn 12 (.getfield 21) 3 15 := ⟨by decide +kernel, rfl⟩
theorem e_X10_turn_15 : kk_d cX10_turn 15 (.iload_n 2) 1 16 := ⟨by decide +kernel, rfl⟩
theorem e_X10_turn_16 : kk_d cX10_turn 16 (.iload_n 3) 1 17 := ⟨by decide +kernel, rfl⟩
theorem e_X10_turn_17 : kk_d cX10_turn 17 (.invokevirtual 143) 3 20 := ⟨by decide +kernel, rfl⟩
theorem e_X10_turn_20 : kk_dj cX10_turn 20 (.ifCond .ne 5) 3 (5) 23 25 := ⟨by decide +kernel, rfl, by decide⟩
theorem e_X10_turn_25 : kk_d cX10_turn 25 (.aload_n 0) 1 26 := ⟨by decide +kernel, rfl⟩
theorem e_X10_turn_26 : kk_d cX10_turn 26 (.getfield 21) 3 29 := ⟨by decide +kernel, rfl⟩
theorem e_X10_turn_29 : kk_d cX10_turn 29 (.iload_n 1) 1 30 := ⟨by decide +kernel, rfl⟩
theorem e_X10_turn_30 : kk_d cX10_turn 30 (.iload_n 2) 1 31 := ⟨by decide +kernel, rfl⟩
theorem e_X10_turn_31 : kk_d cX10_turn 31 (.iload_n 3) 1 32 := ⟨by decide +kernel, rfl⟩
theorem e_X10_turn_32 : kk_d cX10_turn 32 (.invokevirtual 147) 3 35 := ⟨by decide +kernel, rfl⟩
theorem e_X10_turn_35 : kk_d cX10_turn 35 (.istore 4) 2 37 := ⟨by decide +kernel, rfl⟩
theorem e_X10_turn_37 : kk_d cX10_turn 37 (.aload_n 0) 1 38 := ⟨by decide +kernel, rfl⟩
theorem e_X10_turn_38 : kk_d cX10_turn 38 (.getfield 21) 3 41 := ⟨by decide +kernel, rfl⟩
theorem e_X10_turn_41 : kk_d cX10_turn 41 (.iload 4) 2 43 := ⟨by decide +kernel, rfl⟩
theorem e_X10_turn_43 : kk_d cX10_turn 43 (.iload_n 2) 1 44 := ⟨by decide +kernel, rfl⟩
theorem e_X10_turn_44 : kk_d cX10_turn 44 (.iload_n 3) 1 45 := ⟨by decide +kernel, rfl⟩
theorem e_X10_turn_45 : kk_d cX10_turn 45 (.invokevirtual 151) 3 48 := ⟨by decide +kernel, rfl⟩
theorem e_X10_turn_48 : kk_d cX10_turn 48 (.iload 4) 2 50 := ⟨by decide +kernel, rfl⟩
theorem e_X10_turn_50 : kk_d cX10_turn 50 (.invokestatic 155) 3 53 := ⟨by decide +kernel, rfl⟩
theorem e_X10_turn_53 : kk_d cX10_turn 53 .ireturn 1 54 := ⟨by decide +kernel, rfl⟩
set_option maxRecDepth 4000 in
theorem s_X10_turn (Z : kk_Z) (v1 : Int32) (v2 : Int32) (v3 : Int32) (σ : kk_St) (Q : Int32 → kk_St → Prop) (h : f_X10_turn v1 v2 v3 σ Q) : kk_M Z sh_C yX10_turn cX10_turn 5 (some .int) (kk_R 5) [.ref (Z.2.1 0), .int v1, .int v2, .int v3] σ (kk_Qi Z sh_C Q) := by
  unfold f_X10_turn at h
  refine kk_met (own := RX10) (by decide) rfl (Nat.le_of_ble_eq_true rfl) rfl ?_
  refine kk_aload_n 0 rfl e_X10_turn_0 ?_
  refine kk_getr e_X10_turn_1 fl_X10_10 rfl rfl ?_
  refine kk_iload_n 1 rfl e_X10_turn_4 ?_
  refine kk_callVip (As := [.int v1]) (rest := []) e_X10_turn_5 ml_X10_108 ⟨_, _, _, _, rfl, rfl⟩ rfl (kk_fitR (by decide) (by decide)) (Nat.le_of_ble_eq_true rfl) rfl (s_X6_isPost Z v1 σ _ h) (fun r_1 h => ?_)
  refine kk_jW0 (P := KK Z sh_C RX10 cX10_turn 5 (some .int) (kk_R 5) (kk_Qi Z sh_C Q) 23 [] [] σ) h ?_ ?_
  · intro h
    refine kk_iconst ic_m1 e_X10_turn_23 ?_
    exact kk_iret e_X10_turn_24 h
  · intro J_2 hJ_2 h
    refine kk_if_eq e_X10_turn_8 (fun c_8 => ?_) (fun c_8 => ?_)
    · replace h := h.1 c_8
      exact kk_sub [] rfl (hJ_2 h)
    · replace h := h.2 c_8
      refine kk_aload_n 0 rfl e_X10_turn_11 ?_
      refine kk_getr e_X10_turn_12 fl_X10_21 rfl rfl ?_
      refine kk_iload_n 2 rfl e_X10_turn_15 ?_
      refine kk_iload_n 3 rfl e_X10_turn_16 ?_
      refine kk_callVip (As := [.int v2, .int v3]) (rest := []) e_X10_turn_17 ml_X10_143 ⟨_, _, _, _, rfl, rfl⟩ rfl (kk_fitR (by decide) (by decide)) (Nat.le_of_ble_eq_true rfl) rfl (s_X3_areUnlike Z v2 v3 σ _ h) (fun r_3 h => ?_)
      refine kk_if_ne e_X10_turn_20 (fun c_7 => ?_) (fun c_7 => ?_)
      · replace h := h.1 c_7
        refine kk_aload_n 0 rfl e_X10_turn_25 ?_
        refine kk_getr e_X10_turn_26 fl_X10_21 rfl rfl ?_
        refine kk_iload_n 1 rfl e_X10_turn_29 ?_
        refine kk_iload_n 2 rfl e_X10_turn_30 ?_
        refine kk_iload_n 3 rfl e_X10_turn_31 ?_
        refine kk_callVip (As := [.int v1, .int v2, .int v3]) (rest := []) e_X10_turn_32 ml_X10_147 ⟨_, _, _, _, rfl, rfl⟩ rfl (kk_fitR (by decide) (by decide)) (Nat.le_of_ble_eq_true rfl) rfl (s_X3_chainOf Z v1 v2 v3 σ _ h) (fun r_4 h => ?_)
        refine kk_istore (lv' := [(4, .int r_4), (0, .ref (Z.2.1 0)), (1, .int v1), (2, .int v2), (3, .int v3)]) e_X10_turn_35 (by decide) rfl ?_
        refine kk_aload_n 1 rfl e_X10_turn_37 ?_
        refine kk_getr e_X10_turn_38 fl_X10_21 rfl rfl ?_
        refine kk_iload 0 rfl e_X10_turn_41 ?_
        refine kk_iload_n 3 rfl e_X10_turn_43 ?_
        refine kk_iload_n 4 rfl e_X10_turn_44 ?_
        refine kk_callVv (As := [.int r_4, .int v2, .int v3]) (rest := []) e_X10_turn_45 ml_X10_151 ⟨_, _, _, _, rfl, rfl⟩ rfl (kk_fitR (by decide) (by decide)) (Nat.le_of_ble_eq_true rfl) rfl (s_X3_flip Z r_4 v2 v3 σ _ h) (fun σ_5 h => ?_)
        refine kk_iload 0 rfl e_X10_turn_48 ?_
        refine kk_callSip (As := [.int r_4]) (rest := []) e_X10_turn_50 ml_X10_155 rfl (kk_fitR (by decide) (by decide)) (Nat.le_of_ble_eq_true rfl) rfl (s_J6_bitCount_0f7a4 Z r_4 σ_5 _ h) (fun r_6 h => ?_)
        exact kk_iret e_X10_turn_53 h
      · replace h := h.2 c_7
        exact kk_sub [] rfl (hJ_2 h)
theorem e_X9_codeOf_0 : kk_d cX9_codeOf 0 (.iconst 0) 1 1 := ⟨by decide +kernel, rfl⟩
theorem e_X9_codeOf_1 : kk_d cX9_codeOf 1 (.istore_n 2) 1 2 := ⟨by decide +kernel, rfl⟩
theorem e_X9_codeOf_2 : kk_d cX9_codeOf 2 (.iconst 0) 1 3 := ⟨by decide +kernel, rfl⟩
theorem e_X9_codeOf_3 : kk_d cX9_codeOf 3 (.istore_n 3) 1 4 := ⟨by decide +kernel, rfl⟩
theorem e_X9_codeOf_39 : kk_d cX9_codeOf 39 (.iload_n 2) 1 40 := ⟨by decide +kernel, rfl⟩
theorem e_X9_codeOf_40 : kk_d cX9_codeOf 40 .ireturn 1 41 := ⟨by decide +kernel, rfl⟩
theorem e_X9_codeOf_4 : kk_d cX9_codeOf 4 (.iload_n 3) 1 5 := ⟨by decide +kernel, rfl⟩
theorem e_X9_codeOf_5 : kk_d cX9_codeOf 5 (.aload_n 0) 1 6 := ⟨by decide +kernel, rfl⟩
theorem e_X9_codeOf_6 : kk_d cX9_codeOf 6 (.getfield 31) 3 9 := ⟨by decide +kernel, rfl⟩
theorem e_X9_codeOf_9 : kk_d cX9_codeOf 9 (.getfield 64) 3 12 := ⟨by decide +kernel, rfl⟩
theorem e_X9_codeOf_12 : kk_dj cX9_codeOf 12 (.if_icmp .ge 27) 3 (27) 15 39 := ⟨by decide +kernel, rfl, by decide⟩
theorem e_X9_codeOf_15 : kk_d cX9_codeOf 15 (.iload_n 3) 1 16 := ⟨by decide +kernel, rfl⟩
theorem e_X9_codeOf_16 : kk_d cX9_codeOf 16 (.bipush 6) 2 18 := ⟨by decide +kernel, rfl⟩
theorem e_X9_codeOf_18 : kk_dj cX9_codeOf 18 (.if_icmp .ge 21) 3 (21) 21 39 := ⟨by decide +kernel, rfl, by decide⟩
theorem e_X9_codeOf_21 : kk_d cX9_codeOf 21 (.iload_n 2) 1 22 := ⟨by decide +kernel, rfl⟩
theorem e_X9_codeOf_22 : kk_d cX9_codeOf 22 (.aload_n 1) 1 23 := ⟨by decide +kernel, rfl⟩
theorem e_X9_codeOf_23 : kk_d cX9_codeOf 23 (.iload_n 3) 1 24 := ⟨by decide +kernel, rfl⟩
theorem e_X9_codeOf_24 : kk_d cX9_codeOf 24 .iaload 1 25 := ⟨by decide +kernel, rfl⟩
theorem e_X9_codeOf_25 : kk_d cX9_codeOf 25 (.iconst 3) 1 26 := ⟨by decide +kernel, rfl⟩
theorem e_X9_codeOf_26 : kk_d cX9_codeOf 26 .iand 1 27 := ⟨by decide +kernel, rfl⟩
theorem e_X9_codeOf_27 : kk_d cX9_codeOf 27 (.iconst 2) 1 28 := ⟨by decide +kernel, rfl⟩
theorem e_X9_codeOf_28 : kk_d cX9_codeOf 28 (.iload_n 3) 1 29 := ⟨by decide +kernel, rfl⟩
theorem e_X9_codeOf_29 : kk_d cX9_codeOf 29 .imul 1 30 := ⟨by decide +kernel, rfl⟩
theorem e_X9_codeOf_30 : kk_d cX9_codeOf 30 .ishl 1 31 := ⟨by decide +kernel, rfl⟩
theorem e_X9_codeOf_31 : kk_d cX9_codeOf 31 .ior 1 32 := ⟨by decide +kernel, rfl⟩
theorem e_X9_codeOf_32 : kk_d cX9_codeOf 32 (.istore_n 2) 1 33 := ⟨by decide +kernel, rfl⟩
theorem e_X9_codeOf_33 : kk_d cX9_codeOf 33 (.iinc 3 1) 3 36 := ⟨by decide +kernel, rfl⟩
theorem e_X9_codeOf_36 : kk_dj cX9_codeOf 36 (.goto (-32)) 3 (-32) 39 4 := ⟨by decide +kernel, rfl, by decide⟩
set_option maxRecDepth 4000 in
theorem s_X9_codeOf (Z : kk_Z) (a1 : Nat) (n1 : Nat) (σ : kk_St) (Q : Int32 → Prop) (ha1 : sh_C[a1]? = some (.inl (false, n1))) (h : f_X9_codeOf a1 n1 σ Q) : kk_M Z sh_C yX9_codeOf cX9_codeOf 4 (some .int) (kk_R 2) [.ref (Z.2.1 10), .ref (Z.2.1 a1)] σ (kk_Qi Z sh_C (fun r σ' => σ' = σ ∧ Q r)) := by
  unfold f_X9_codeOf at h
  refine kk_met (own := RX9) (by decide) rfl (Nat.le_of_ble_eq_true rfl) rfl ?_
  refine kk_iconst ic_0 e_X9_codeOf_0 ?_
  refine kk_istore_n (lv' := [(2, .int (0 : Int32)), (0, .ref (Z.2.1 10)), (1, .ref (Z.2.1 a1))]) e_X9_codeOf_1 rfl (by decide) rfl ?_
  refine kk_iconst ic_0 e_X9_codeOf_2 ?_
  refine kk_istore_n (lv' := [(3, .int (0 : Int32)), (2, .int (0 : Int32)), (0, .ref (Z.2.1 10)), (1, .ref (Z.2.1 a1))]) e_X9_codeOf_3 rfl (by decide) rfl ?_
  refine kk_jW1 (P := fun (v2_1 : Int32) => KK Z sh_C RX9 cX9_codeOf 4 (some .int) (kk_R 2) (kk_Qi Z sh_C (fun r σ' => σ' = σ ∧ Q r)) 39 [(2, .int v2_1)] [] σ) h ?_ ?_
  · intro v2_1 h
    refine kk_iload_n 0 rfl e_X9_codeOf_39 ?_
    exact kk_iret e_X9_codeOf_40 ⟨rfl, h⟩
  · intro J_2 hJ_2 h
    refine kk_sub [2, 3, 1, 0] rfl ?_
    refine kk_lpW2 (P := fun (v2_3 : Int32) (v3_4 : Int32) => KK Z sh_C RX9 cX9_codeOf 4 (some .int) (kk_R 2) (kk_Qi Z sh_C (fun r σ' => σ' = σ ∧ Q r)) 4 [(0, .ref (Z.2.1 10)), (1, .ref (Z.2.1 a1)), (2, .int v2_3), (3, .int v3_4)] [] σ) ?_ h
    intro rec_5 hrec_5 v2_3 v3_4 h
    refine kk_iload_n 3 rfl e_X9_codeOf_4 ?_
    refine kk_aload_n 0 rfl e_X9_codeOf_5 ?_
    refine kk_getr e_X9_codeOf_6 fl_X9_31 rfl rfl ?_
    refine kk_geti e_X9_codeOf_9 fl_X9_64 rfl rfl ?_
    refine kk_icmp_ge e_X9_codeOf_12 (fun c_8 => ?_) (fun c_8 => ?_)
    · replace h := h.1 c_8
      exact kk_sub [2] rfl (hJ_2 v2_3 h)
    · replace h := h.2 c_8
      refine kk_iload_n 3 rfl e_X9_codeOf_15 ?_
      refine kk_bipush bp_6 e_X9_codeOf_16 ?_
      refine kk_icmp_ge e_X9_codeOf_18 (fun c_7 => ?_) (fun c_7 => ?_)
      · replace h := h.1 c_7
        exact kk_sub [2] rfl (hJ_2 v2_3 h)
      · replace h := h.2 c_7
        refine kk_iload_n 2 rfl e_X9_codeOf_21 ?_
        refine kk_aload_n 1 rfl e_X9_codeOf_22 ?_
        refine kk_iload_n 3 rfl e_X9_codeOf_23 ?_
        refine kk_iald e_X9_codeOf_24 ha1 h.1 ?_
        replace h := h.2
        refine kk_iconst ic_3 e_X9_codeOf_25 ?_
        refine kk_iand e_X9_codeOf_26 ?_
        refine kk_iconst ic_2 e_X9_codeOf_27 ?_
        refine kk_iload_n 3 rfl e_X9_codeOf_28 ?_
        refine kk_imul e_X9_codeOf_29 ?_
        refine kk_ishl e_X9_codeOf_30 ?_
        refine kk_ior e_X9_codeOf_31 ?_
        refine kk_topi (fun v2_6 ev2_6 => ?_)
        replace h := h v2_6 ev2_6
        refine kk_istore_n (lv' := [(2, .int v2_6), (0, .ref (Z.2.1 10)), (1, .ref (Z.2.1 a1)), (3, .int v3_4)]) e_X9_codeOf_32 rfl (by decide) rfl ?_
        refine kk_iinc (lv' := [(3, .int (v3_4 + (1 : Int32))), (2, .int v2_6), (0, .ref (Z.2.1 10)), (1, .ref (Z.2.1 a1))]) e_X9_codeOf_33 (j := 3) rfl (ii_1 v3_4) (by decide) rfl ?_
        refine kk_goto e_X9_codeOf_36 ?_
        exact kk_sub [2, 3, 1, 0] rfl (hrec_5 v2_6 (v3_4 + (1 : Int32)) h)
theorem e_X9_fewestTurns_0 : kk_d cX9_fewestTurns 0 (.aload_n 0) 1 1 := ⟨by decide +kernel, rfl⟩
theorem e_X9_fewestTurns_1 : kk_d cX9_fewestTurns 1 (.iload_n 3) 1 2 := ⟨by decide +kernel, rfl⟩
theorem e_X9_fewestTurns_2 : kk_d cX9_fewestTurns 2 (.invokevirtual 35) 3 5 := ⟨by decide +kernel, rfl⟩
theorem e_X9_fewestTurns_5 : kk_d cX9_fewestTurns 5 (.aload_n 0) 1 6 := ⟨by decide +kernel, rfl⟩
theorem e_X9_fewestTurns_6 : kk_d cX9_fewestTurns 6 (.aload_n 2) 1 7 := ⟨by decide +kernel, rfl⟩
theorem e_X9_fewestTurns_7 : kk_d cX9_fewestTurns 7 (.invokevirtual 43) 3 10 := ⟨by decide +kernel, rfl⟩
theorem e_X9_fewestTurns_10 : kk_d cX9_fewestTurns 10 (.istore 4) 2 12 := ⟨by decide +kernel, rfl⟩
theorem e_X9_fewestTurns_12 : kk_d cX9_fewestTurns 12 (.aload_n 0) 1 13 := ⟨by decide +kernel, rfl⟩
theorem e_X9_fewestTurns_13 : kk_d cX9_fewestTurns 13 (.aload_n 0) 1 14 := ⟨by decide +kernel, rfl⟩
theorem e_X9_fewestTurns_14 : kk_d cX9_fewestTurns 14 (.aload_n 1) 1 15 := ⟨by decide +kernel, rfl⟩
theorem e_X9_fewestTurns_15 : kk_d cX9_fewestTurns 15 (.invokevirtual 43) 3 18 := ⟨by decide +kernel, rfl⟩
theorem e_X9_fewestTurns_18 : kk_d cX9_fewestTurns 18 (.invokevirtual 47) 3 21 := ⟨by decide +kernel, rfl⟩
theorem e_X9_fewestTurns_21 : kk_d cX9_fewestTurns 21 (.iconst 0) 1 22 := ⟨by decide +kernel, rfl⟩
theorem e_X9_fewestTurns_22 : kk_d cX9_fewestTurns 22 (.istore 5) 2 24 := ⟨by decide +kernel, rfl⟩
theorem e_X9_fewestTurns_24 : kk_d cX9_fewestTurns 24 (.iload 5) 2 26 := ⟨by decide +kernel, rfl⟩
theorem e_X9_fewestTurns_26 : kk_d cX9_fewestTurns 26 (.sipush 4096) 3 29 := ⟨by decide +kernel, rfl⟩
theorem e_X9_fewestTurns_29 : kk_dj cX9_fewestTurns 29 (.if_icmp .gt 31) 3 (31) 32 60 := ⟨by decide +kernel, rfl, by decide⟩
theorem e_X9_fewestTurns_60 : kk_d cX9_fewestTurns 60 (.bipush (-2)) 2 62 := ⟨by decide +kernel, rfl⟩
theorem e_X9_fewestTurns_62 : kk_d cX9_fewestTurns 62 .ireturn 1 63 := ⟨by decide +kernel, rfl⟩
theorem e_X9_fewestTurns_32 : kk_d cX9_fewestTurns 32 (.aload_n 0) 1 33 := ⟨by decide +kernel, rfl⟩
theorem e_X9_fewestTurns_33 : kk_d cX9_fewestTurns 33 (.iload 4) 2 35 := ⟨by decide +kernel, rfl⟩
theorem e_X9_fewestTurns_35 : kk_d cX9_fewestTurns 35 (.invokevirtual 50) 3 38 := ⟨by decide +kernel, rfl⟩
theorem e_X9_fewestTurns_38 : kk_dj cX9_fewestTurns 38 (.ifCond .eq 6) 3 (6) 41 44 := ⟨by decide +kernel, rfl, by decide⟩
theorem e_X9_fewestTurns_44 : kk_d cX9_fewestTurns 44 (.aload_n 0) 1 45 := ⟨by decide +kernel, rfl⟩
theorem e_X9_fewestTurns_45 : kk_d cX9_fewestTurns 45 (.invokevirtual 54) 3 48 := ⟨by decide +kernel, rfl⟩
theorem e_X9_fewestTurns_48 : kk_dj cX9_fewestTurns 48 (.ifCond .ne 6) 3 (6) 51 54 := ⟨by decide +kernel, rfl, by decide⟩
theorem e_X9_fewestTurns_54 : kk_d cX9_fewestTurns 54 (.iinc 5 1) 3 57 := ⟨by decide +kernel, rfl⟩
theorem e_X9_fewestTurns_57 : kk_dj cX9_fewestTurns 57 (.goto (-33)) 3 (-33) 60 24 := ⟨by decide +kernel, rfl, by decide⟩
theorem e_X9_fewestTurns_51 : kk_d cX9_fewestTurns 51 (.bipush (-2)) 2 53 := ⟨by decide +kernel, rfl⟩
theorem e_X9_fewestTurns_53 : kk_d cX9_fewestTurns 53 .ireturn 1 54 := ⟨by decide +kernel, rfl⟩
theorem e_X9_fewestTurns_41 : kk_d cX9_fewestTurns 41 (.iload 5) 2 43 := ⟨by decide +kernel, rfl⟩
theorem e_X9_fewestTurns_43 : kk_d cX9_fewestTurns 43 .ireturn 1 44 := ⟨by decide +kernel, rfl⟩
set_option maxRecDepth 4000 in
theorem s_X9_fewestTurns (Z : kk_Z) (a1 : Nat) (n1 : Nat) (a2 : Nat) (n2 : Nat) (v3 : Int32) (σ : kk_St) (Q : Int32 → kk_St → Prop) (ha1 : sh_C[a1]? = some (.inl (false, n1))) (ha2 : sh_C[a2]? = some (.inl (false, n2))) (h : f_X9_fewestTurns a1 n1 a2 n2 v3 σ Q) : kk_M Z sh_C yX9_fewestTurns cX9_fewestTurns 6 (some .int) (kk_R 6) [.ref (Z.2.1 10), .ref (Z.2.1 a1), .ref (Z.2.1 a2), .int v3] σ (kk_Qi Z sh_C Q) := by
  unfold f_X9_fewestTurns at h
  refine kk_met (own := RX9) (by decide) rfl (Nat.le_of_ble_eq_true rfl) rfl ?_
  refine kk_aload_n 0 rfl e_X9_fewestTurns_0 ?_
  refine kk_iload_n 3 rfl e_X9_fewestTurns_1 ?_
  refine kk_callVv (As := [.int v3]) (rest := []) e_X9_fewestTurns_2 ml_X9_35 ⟨_, _, _, _, rfl, rfl⟩ rfl (kk_fitR (by decide) (by decide)) (Nat.le_of_ble_eq_true rfl) rfl (s_X9_prepare Z v3 σ _ h) (fun σ_1 h => ?_)
  refine kk_aload_n 0 rfl e_X9_fewestTurns_5 ?_
  refine kk_aload_n 2 rfl e_X9_fewestTurns_6 ?_
  refine kk_callVip (As := [.ref (Z.2.1 a2)]) (rest := []) e_X9_fewestTurns_7 ml_X9_43 ⟨_, _, _, _, rfl, rfl⟩ rfl (kk_fitR (by decide) (by decide)) (Nat.le_of_ble_eq_true rfl) rfl (s_X9_codeOf Z a2 n2 σ_1 _ ha2 h) (fun r_2 h => ?_)
  refine kk_istore (lv' := [(4, .int r_2), (0, .ref (Z.2.1 10)), (1, .ref (Z.2.1 a1)), (2, .ref (Z.2.1 a2)), (3, .int v3)]) e_X9_fewestTurns_10 (by decide) rfl ?_
  refine kk_aload_n 1 rfl e_X9_fewestTurns_12 ?_
  refine kk_aload_n 1 rfl e_X9_fewestTurns_13 ?_
  refine kk_aload_n 2 rfl e_X9_fewestTurns_14 ?_
  refine kk_callVip (As := [.ref (Z.2.1 a1)]) (rest := [.ref (Z.2.1 10)]) e_X9_fewestTurns_15 ml_X9_43 ⟨_, _, _, _, rfl, rfl⟩ rfl (kk_fitR (by decide) (by decide)) (Nat.le_of_ble_eq_true rfl) rfl (s_X9_codeOf Z a1 n1 σ_1 _ ha1 h) (fun r_3 h => ?_)
  refine kk_callVv (As := [.int r_3]) (rest := []) e_X9_fewestTurns_18 ml_X9_47 ⟨_, _, _, _, rfl, rfl⟩ rfl (kk_fitR (by decide) (by decide)) (Nat.le_of_ble_eq_true rfl) rfl (s_X9_mark Z r_3 σ_1 _ h) (fun σ_4 h => ?_)
  refine kk_iconst ic_0 e_X9_fewestTurns_21 ?_
  refine kk_istore (lv' := [(5, .int (0 : Int32)), (4, .int r_2), (0, .ref (Z.2.1 10)), (1, .ref (Z.2.1 a1)), (2, .ref (Z.2.1 a2)), (3, .int v3)]) e_X9_fewestTurns_22 (by decide) rfl ?_
  refine kk_sub [2, 1, 0] rfl ?_
  refine kk_lpW2 (P := fun (v5_5 : Int32) (σ_6 : kk_St) => KK Z sh_C RX9 cX9_fewestTurns 6 (some .int) (kk_R 6) (kk_Qi Z sh_C Q) 24 [(0, .ref (Z.2.1 10)), (4, .int r_2), (5, .int v5_5)] [] σ_6) ?_ h
  intro rec_7 hrec_7 v5_5 σ_6 h
  refine kk_iload 2 rfl e_X9_fewestTurns_24 ?_
  refine kk_sipush sp_4096 e_X9_fewestTurns_26 ?_
  refine kk_icmp_gt e_X9_fewestTurns_29 (fun c_13 => ?_) (fun c_13 => ?_)
  · replace h := h.1 c_13
    refine kk_bipush bp_m2 e_X9_fewestTurns_60 ?_
    exact kk_iret e_X9_fewestTurns_62 h
  · replace h := h.2 c_13
    refine kk_aload_n 0 rfl e_X9_fewestTurns_32 ?_
    refine kk_iload 1 rfl e_X9_fewestTurns_33 ?_
    refine kk_callVip (As := [.int r_2]) (rest := []) e_X9_fewestTurns_35 ml_X9_50 ⟨_, _, _, _, rfl, rfl⟩ rfl (kk_fitR (by decide) (by decide)) (Nat.le_of_ble_eq_true rfl) rfl (s_X9_isSeen Z r_2 σ_6 _ h) (fun r_8 h => ?_)
    refine kk_if_eq e_X9_fewestTurns_38 (fun c_12 => ?_) (fun c_12 => ?_)
    · replace h := h.1 c_12
      refine kk_aload_n 0 rfl e_X9_fewestTurns_44 ?_
      refine kk_callVi (As := []) (rest := []) e_X9_fewestTurns_45 ml_X9_54 ⟨_, _, _, _, rfl, rfl⟩ rfl (kk_fitR (by decide) (by decide)) (Nat.le_of_ble_eq_true rfl) rfl (s_X9_advance Z σ_6 _ h) (fun r_9 σ_10 h => ?_)
      refine kk_if_ne e_X9_fewestTurns_48 (fun c_11 => ?_) (fun c_11 => ?_)
      · replace h := h.1 c_11
        refine kk_iinc (lv' := [(5, .int (v5_5 + (1 : Int32))), (0, .ref (Z.2.1 10)), (4, .int r_2)]) e_X9_fewestTurns_54 (j := 2) rfl (ii_1 v5_5) (by decide) rfl ?_
        refine kk_goto e_X9_fewestTurns_57 ?_
        exact kk_sub [1, 2, 0] rfl (hrec_7 (v5_5 + (1 : Int32)) σ_10 h)
      · replace h := h.2 c_11
        refine kk_bipush bp_m2 e_X9_fewestTurns_51 ?_
        exact kk_iret e_X9_fewestTurns_53 h
    · replace h := h.2 c_12
      refine kk_iload 2 rfl e_X9_fewestTurns_41 ?_
      exact kk_iret e_X9_fewestTurns_43 h
theorem e_X10_turns_0 : kk_d cX10_turns 0 (.iload_n 1) 1 1 := ⟨by decide +kernel, rfl⟩
theorem e_X10_turns_1 : kk_d cX10_turns 1 (.iconst 1) 1 2 := ⟨by decide +kernel, rfl⟩
theorem e_X10_turns_2 : kk_dj cX10_turns 2 (.if_icmp .lt 27) 3 (27) 5 29 := ⟨by decide +kernel, rfl, by decide⟩
theorem e_X10_turns_29 : kk_d cX10_turns 29 (.iconst (-1)) 1 30 := ⟨by decide +kernel, rfl⟩
theorem e_X10_turns_30 : kk_d cX10_turns 30 .ireturn 1 31 := ⟨by decide +kernel, rfl⟩
theorem e_X10_turns_5 : kk_d cX10_turns 5 (.iload_n 1) 1 6 := ⟨by decide +kernel, rfl⟩
theorem e_X10_turns_6 : kk_d cX10_turns 6 (.iconst 4) 1 7 := ⟨by decide +kernel, rfl⟩
theorem e_X10_turns_7 : kk_dj cX10_turns 7 (.if_icmp .gt 22) 3 (22) 10 29 := ⟨by decide +kernel, rfl, by decide⟩
theorem e_X10_turns_10 : kk_d cX10_turns 10 (.aload_n 0) 1 11 := ⟨by decide +kernel, rfl⟩
theorem e_X10_turns_11 : kk_d cX10_turns 11 (.getfield 92) 3 14 := ⟨by decide +kernel, rfl⟩
theorem e_X10_turns_14 : kk_dj cX10_turns 14 (.ifCond .eq 15) 3 (15) 17 29 := ⟨by decide +kernel, rfl, by decide⟩
theorem e_X10_turns_17 : kk_d cX10_turns 17 (.aload_n 0) 1 18 := ⟨by decide +kernel, rfl⟩
theorem e_X10_turns_18 : kk_d cX10_turns 18 (.getfield 10) 3 21 := ⟨by decide +kernel, rfl⟩
theorem e_X10_turns_21 : kk_d cX10_turns 21 (.getfield 112) 3 24 := ⟨by decide +kernel, rfl⟩
theorem e_X10_turns_24 : kk_d cX10_turns 24 (.bipush 6) 2 26 := ⟨by decide +kernel, rfl⟩
theorem e_X10_turns_26 : kk_dj cX10_turns 26 (.if_icmp .le 5) 3 (5) 29 31 := ⟨by decide +kernel, rfl, by decide⟩
theorem e_X10_turns_31 : kk_d cX10_turns 31 (.aload_n 0) 1 32 := ⟨by decide +kernel, rfl⟩
theorem e_X10_turns_32 : kk_d cX10_turns 32 (.aload_n 0) 1 33 := ⟨by decide +kernel, rfl⟩
theorem e_X10_turns_33 : kk_d cX10_turns 33 (.getfield 85) 3 36 := ⟨by decide +kernel, rfl⟩
theorem e_X10_turns_36 : kk_d cX10_turns 36 (.iload_n 1) 1 37 := ⟨by decide +kernel, rfl⟩
theorem e_X10_turns_37 : kk_d cX10_turns 37 (.invokevirtual 303) 3 40 := ⟨by decide +kernel, rfl⟩
theorem e_X10_turns_40 : kk_dj cX10_turns 40 (.ifCond .eq 18) 3 (18) 43 58 := ⟨by decide +kernel, rfl, by decide⟩
theorem e_X10_turns_58 : kk_d cX10_turns 58 (.iconst (-1)) 1 59 := ⟨by decide +kernel, rfl⟩
theorem e_X10_turns_59 : kk_d cX10_turns 59 .ireturn 1 60 := ⟨by decide +kernel, rfl⟩
theorem e_X10_turns_43 : kk_d cX10_turns 43 (.aload_n 0) 1 44 := ⟨by decide +kernel, rfl⟩
theorem e_X10_turns_44 : kk_d cX10_turns 44 (.aload_n 0) 1 45 := ⟨by decide +kernel, rfl⟩
theorem e_X10_turns_45 : kk_d cX10_turns 45 (.getfield 21) 3 48 := ⟨by decide +kernel, rfl⟩
theorem e_X10_turns_48 : kk_d cX10_turns 48 (.getfield 137) 3 51 := ⟨by decide +kernel, rfl⟩
theorem e_X10_turns_51 : kk_d cX10_turns 51 (.iload_n 1) 1 52 := ⟨by decide +kernel, rfl⟩
theorem e_X10_turns_52 : kk_d cX10_turns 52 (.invokevirtual 303) 3 55 := ⟨by decide +kernel, rfl⟩
theorem e_X10_turns_55 : kk_dj cX10_turns 55 (.ifCond .ne 5) 3 (5) 58 60 := ⟨by decide +kernel, rfl, by decide⟩
theorem e_X10_turns_60 : kk_d cX10_turns 60 (.aload_n 0) 1 61 := ⟨by decide +kernel, rfl⟩
theorem e_X10_turns_61 : kk_d cX10_turns 61 (.getfield 81) 3 64 := ⟨by decide +kernel, rfl⟩
theorem e_X10_turns_64 : kk_d cX10_turns 64 (.aload_n 0) 1 65 := ⟨by decide +kernel, rfl⟩
theorem e_X10_turns_65 : kk_d cX10_turns 65 (.getfield 85) 3 68 := ⟨by decide +kernel, rfl⟩
theorem e_X10_turns_68 : kk_d cX10_turns 68 (.aload_n 0) 1 69 := ⟨by decide +kernel, rfl⟩
theorem e_X10_turns_69 : kk_d cX10_turns 69 (.getfield 21) 3 72 := ⟨by decide +kernel, rfl⟩
theorem e_X10_turns_72 : kk_d cX10_turns 72 (.getfield 137) 3 75 := ⟨by decide +kernel, rfl⟩
theorem e_X10_turns_75 : kk_d cX10_turns 75 (.iload_n 1) 1 76 := ⟨by decide +kernel, rfl⟩
theorem e_X10_turns_76 : kk_d cX10_turns 76 (.invokevirtual 307) 3 79 := ⟨by decide +kernel, rfl⟩
theorem e_X10_turns_79 : kk_d cX10_turns 79 .ireturn 1 80 := ⟨by decide +kernel, rfl⟩
set_option maxRecDepth 4000 in
theorem s_X10_turns (Z : kk_Z) (v1 : Int32) (σ : kk_St) (Q : Int32 → kk_St → Prop) (h : f_X10_turns v1 σ Q) : kk_M Z sh_C yX10_turns cX10_turns 2 (some .int) (kk_R 7) [.ref (Z.2.1 0), .int v1] σ (kk_Qi Z sh_C Q) := by
  unfold f_X10_turns at h
  refine kk_met (own := RX10) (by decide) rfl (Nat.le_of_ble_eq_true rfl) rfl ?_
  refine kk_iload_n 1 rfl e_X10_turns_0 ?_
  refine kk_iconst ic_1 e_X10_turns_1 ?_
  refine kk_jW0 (P := KK Z sh_C RX10 cX10_turns 2 (some .int) (kk_R 7) (kk_Qi Z sh_C Q) 29 [] [] σ) h ?_ ?_
  · intro h
    refine kk_iconst ic_m1 e_X10_turns_29 ?_
    exact kk_iret e_X10_turns_30 h
  · intro J_1 hJ_1 h
    refine kk_icmp_lt e_X10_turns_2 (fun c_12 => ?_) (fun c_12 => ?_)
    · replace h := h.1 c_12
      exact kk_sub [] rfl (hJ_1 h)
    · replace h := h.2 c_12
      refine kk_iload_n 1 rfl e_X10_turns_5 ?_
      refine kk_iconst ic_4 e_X10_turns_6 ?_
      refine kk_icmp_gt e_X10_turns_7 (fun c_11 => ?_) (fun c_11 => ?_)
      · replace h := h.1 c_11
        exact kk_sub [] rfl (hJ_1 h)
      · replace h := h.2 c_11
        refine kk_aload_n 0 rfl e_X10_turns_10 ?_
        refine kk_geti e_X10_turns_11 fl_X10_92 rfl rfl ?_
        refine kk_if_eq e_X10_turns_14 (fun c_10 => ?_) (fun c_10 => ?_)
        · replace h := h.1 c_10
          exact kk_sub [] rfl (hJ_1 h)
        · replace h := h.2 c_10
          refine kk_aload_n 0 rfl e_X10_turns_17 ?_
          refine kk_getr e_X10_turns_18 fl_X10_10 rfl rfl ?_
          refine kk_geti e_X10_turns_21 fl_X10_112 rfl rfl ?_
          refine kk_bipush bp_6 e_X10_turns_24 ?_
          refine kk_icmp_le e_X10_turns_26 (fun c_9 => ?_) (fun c_9 => ?_)
          · replace h := h.1 c_9
            refine kk_aload_n 0 rfl e_X10_turns_31 ?_
            refine kk_aload_n 0 rfl e_X10_turns_32 ?_
            refine kk_getr e_X10_turns_33 fl_X10_85 rfl rfl ?_
            refine kk_iload_n 1 rfl e_X10_turns_36 ?_
            refine kk_callVip (As := [.ref (Z.2.1 31), .int v1]) (rest := []) e_X10_turns_37 ml_X10_303 ⟨_, _, _, _, rfl, rfl⟩ rfl (kk_fitR (by decide) (by decide)) (Nat.le_of_ble_eq_true rfl) rfl (s_X10_areAllBelow Z 31 20 v1 σ _ rfl h) (fun r_2 h => ?_)
            refine kk_jW0 (P := KK Z sh_C RX10 cX10_turns 2 (some .int) (kk_R 7) (kk_Qi Z sh_C Q) 58 [] [] σ) h ?_ ?_
            · intro h
              refine kk_iconst ic_m1 e_X10_turns_58 ?_
              exact kk_iret e_X10_turns_59 h
            · intro J_3 hJ_3 h
              refine kk_if_eq e_X10_turns_40 (fun c_8 => ?_) (fun c_8 => ?_)
              · replace h := h.1 c_8
                exact kk_sub [] rfl (hJ_3 h)
              · replace h := h.2 c_8
                refine kk_aload_n 0 rfl e_X10_turns_43 ?_
                refine kk_aload_n 0 rfl e_X10_turns_44 ?_
                refine kk_getr e_X10_turns_45 fl_X10_21 rfl rfl ?_
                refine kk_getr e_X10_turns_48 fl_X10_137 rfl rfl ?_
                refine kk_iload_n 1 rfl e_X10_turns_51 ?_
                refine kk_callVip (As := [.ref (Z.2.1 16), .int v1]) (rest := []) e_X10_turns_52 ml_X10_303 ⟨_, _, _, _, rfl, rfl⟩ rfl (kk_fitR (by decide) (by decide)) (Nat.le_of_ble_eq_true rfl) rfl (s_X10_areAllBelow Z 16 20 v1 σ _ rfl h) (fun r_4 h => ?_)
                refine kk_if_ne e_X10_turns_55 (fun c_7 => ?_) (fun c_7 => ?_)
                · replace h := h.1 c_7
                  refine kk_aload_n 0 rfl e_X10_turns_60 ?_
                  refine kk_getr e_X10_turns_61 fl_X10_81 rfl rfl ?_
                  refine kk_aload_n 0 rfl e_X10_turns_64 ?_
                  refine kk_getr e_X10_turns_65 fl_X10_85 rfl rfl ?_
                  refine kk_aload_n 0 rfl e_X10_turns_68 ?_
                  refine kk_getr e_X10_turns_69 fl_X10_21 rfl rfl ?_
                  refine kk_getr e_X10_turns_72 fl_X10_137 rfl rfl ?_
                  refine kk_iload_n 1 rfl e_X10_turns_75 ?_
                  refine kk_callVi (As := [.ref (Z.2.1 31), .ref (Z.2.1 16), .int v1]) (rest := []) e_X10_turns_76 ml_X10_307 ⟨_, _, _, _, rfl, rfl⟩ rfl (kk_fitR (by decide) (by decide)) (Nat.le_of_ble_eq_true rfl) rfl (s_X9_fewestTurns Z 31 20 16 20 v1 σ _ rfl rfl h) (fun r_5 σ_6 h => ?_)
                  exact kk_iret e_X10_turns_79 h
                · replace h := h.2 c_7
                  exact kk_sub [] rfl (hJ_3 h)
          · replace h := h.2 c_9
            exact kk_sub [] rfl (hJ_1 h)
theorem e_X10_unlike_0 : kk_d cX10_unlike 0 (.iload_n 1) 1 1 := ⟨by decide +kernel, rfl⟩
theorem e_X10_unlike_1 : kk_dj cX10_unlike 1 (.ifCond .lt 8) 3 (8) 4 9 := ⟨by decide +kernel, rfl, by decide⟩
theorem e_X10_unlike_9 : kk_d cX10_unlike 9 (.iconst (-1)) 1 10 := ⟨by decide +kernel, rfl⟩
theorem e_X10_unlike_10 : kk_d cX10_unlike 10 .ireturn 1 11 := ⟨by decide +kernel, rfl⟩
theorem e_X10_unlike_4 : kk_d cX10_unlike 4 (.iload_n 1) 1 5 := ⟨by decide +kernel, rfl⟩
theorem e_X10_unlike_5 : kk_d cX10_unlike 5 (.iconst 1) 1 6 := ⟨by decide +kernel, rfl⟩
theorem e_X10_unlike_6 : kk_dj cX10_unlike 6 (.if_icmp .le 5) 3 (5) 9 11 := ⟨by decide +kernel, rfl, by decide⟩
theorem e_X10_unlike_11 : kk_d cX10_unlike 11 (.aload_n 0) 1 12 := ⟨by decide +kernel, rfl⟩
theorem e_X10_unlike_12 : kk_d cX10_unlike 12 (.getfield 92) 3 15 := ⟨by decide +kernel, rfl⟩
theorem e_X10_unlike_15 : kk_dj cX10_unlike 15 (.ifCond .ne 6) 3 (6) 18 21 := ⟨by decide +kernel, rfl, by decide⟩
theorem e_X10_unlike_21 : kk_d cX10_unlike 21 (.iload_n 1) 1 22 := ⟨by decide +kernel, rfl⟩
theorem e_X10_unlike_22 : kk_dj cX10_unlike 22 (.ifCond .ne 8) 3 (8) 25 30 := ⟨by decide +kernel, rfl, by decide⟩
theorem e_X10_unlike_30 : kk_d cX10_unlike 30 (.aload_n 0) 1 31 := ⟨by decide +kernel, rfl⟩
theorem e_X10_unlike_31 : kk_d cX10_unlike 31 (.invokevirtual 331) 3 34 := ⟨by decide +kernel, rfl⟩
theorem e_X10_unlike_34 : kk_dj cX10_unlike 34 (.ifCond .eq 7) 3 (7) 37 41 := ⟨by decide +kernel, rfl, by decide⟩
theorem e_X10_unlike_42 : kk_d cX10_unlike 42 .ireturn 1 43 := ⟨by decide +kernel, rfl⟩
theorem e_X10_unlike_41 : kk_d cX10_unlike 41 (.iconst 0) 1 42 := ⟨by decide +kernel, rfl⟩
theorem e_X10_unlike_37 : kk_d cX10_unlike 37 (.iconst 1) 1 38 := ⟨by decide +kernel, rfl⟩
theorem e_X10_unlike_38 : kk_dj cX10_unlike 38 (.goto 4) 3 (4) 41 42 := ⟨by decide +kernel, rfl, by decide⟩
theorem e_X10_unlike_25 : kk_d cX10_unlike 25 (.aload_n 0) 1 26 := ⟨by decide +kernel, rfl⟩
theorem e_X10_unlike_26 : kk_d cX10_unlike 26 (.invokevirtual 191) 3 29 := ⟨by decide +kernel, rfl⟩
theorem e_X10_unlike_29 : kk_d cX10_unlike 29 .ireturn 1 30 := ⟨by decide +kernel, rfl⟩
theorem e_X10_unlike_18 : kk_d cX10_unlike 18 (.bipush (-2)) 2 20 := ⟨by decide +kernel, rfl⟩
theorem e_X10_unlike_20 : kk_d cX10_unlike 20 .ireturn 1 21 := ⟨by decide +kernel, rfl⟩
set_option maxRecDepth 4000 in
theorem s_X10_unlike (Z : kk_Z) (v1 : Int32) (σ : kk_St) (Q : Int32 → Prop) (h : f_X10_unlike v1 σ Q) : kk_M Z sh_C yX10_unlike cX10_unlike 2 (some .int) (kk_R 3) [.ref (Z.2.1 0), .int v1] σ (kk_Qi Z sh_C (fun r σ' => σ' = σ ∧ Q r)) := by
  unfold f_X10_unlike at h
  refine kk_met (own := RX10) (by decide) rfl (Nat.le_of_ble_eq_true rfl) rfl ?_
  refine kk_iload_n 1 rfl e_X10_unlike_0 ?_
  refine kk_jW0 (P := KK Z sh_C RX10 cX10_unlike 2 (some .int) (kk_R 3) (kk_Qi Z sh_C (fun r σ' => σ' = σ ∧ Q r)) 9 [] [] σ) h ?_ ?_
  · intro h
    refine kk_iconst ic_m1 e_X10_unlike_9 ?_
    exact kk_iret e_X10_unlike_10 ⟨rfl, h⟩
  · intro J_1 hJ_1 h
    refine kk_if_lt e_X10_unlike_1 (fun c_10 => ?_) (fun c_10 => ?_)
    · replace h := h.1 c_10
      exact kk_sub [] rfl (hJ_1 h)
    · replace h := h.2 c_10
      refine kk_iload_n 1 rfl e_X10_unlike_4 ?_
      refine kk_iconst ic_1 e_X10_unlike_5 ?_
      refine kk_icmp_le e_X10_unlike_6 (fun c_9 => ?_) (fun c_9 => ?_)
      · replace h := h.1 c_9
        refine kk_aload_n 0 rfl e_X10_unlike_11 ?_
        refine kk_geti e_X10_unlike_12 fl_X10_92 rfl rfl ?_
        refine kk_if_ne e_X10_unlike_15 (fun c_8 => ?_) (fun c_8 => ?_)
        · replace h := h.1 c_8
          refine kk_iload_n 1 rfl e_X10_unlike_21 ?_
          refine kk_if_ne e_X10_unlike_22 (fun c_7 => ?_) (fun c_7 => ?_)
          · replace h := h.1 c_7
            refine kk_aload_n 0 rfl e_X10_unlike_30 ?_
            refine kk_callVip (As := []) (rest := []) e_X10_unlike_31 ml_X10_331 ⟨_, _, _, _, rfl, rfl⟩ rfl (kk_fitR (by decide) (by decide)) (Nat.le_of_ble_eq_true rfl) rfl (s_X10_isLikeKept Z σ _ h) (fun r_2 h => ?_)
            refine kk_jW1 (P := fun (t_3 : Int32) => KK Z sh_C RX10 cX10_unlike 2 (some .int) (kk_R 3) (kk_Qi Z sh_C (fun r σ' => σ' = σ ∧ Q r)) 42 [] [.int t_3] σ) h ?_ ?_
            · intro t_3 h
              exact kk_iret e_X10_unlike_42 ⟨rfl, h⟩
            · intro J_4 hJ_4 h
              refine kk_if_eq e_X10_unlike_34 (fun c_5 => ?_) (fun c_5 => ?_)
              · replace h := h.1 c_5
                refine kk_iconst ic_0 e_X10_unlike_41 ?_
                exact kk_sub [] rfl (hJ_4 (0 : Int32) h)
              · replace h := h.2 c_5
                refine kk_iconst ic_1 e_X10_unlike_37 ?_
                refine kk_goto e_X10_unlike_38 ?_
                exact kk_sub [] rfl (hJ_4 (1 : Int32) h)
          · replace h := h.2 c_7
            refine kk_aload_n 0 rfl e_X10_unlike_25 ?_
            refine kk_callVip (As := []) (rest := []) e_X10_unlike_26 ml_X10_191 ⟨_, _, _, _, rfl, rfl⟩ rfl (kk_fitR (by decide) (by decide)) (Nat.le_of_ble_eq_true rfl) rfl (s_X10_countUnlike Z σ _ h) (fun r_6 h => ?_)
            exact kk_iret e_X10_unlike_29 ⟨rfl, h⟩
        · replace h := h.2 c_8
          refine kk_bipush bp_m2 e_X10_unlike_18 ?_
          exact kk_iret e_X10_unlike_20 ⟨rfl, h⟩
      · replace h := h.2 c_9
        exact kk_sub [] rfl (hJ_1 h)
theorem e_X8_share_0 : kk_d cX8_share 0 (.iload_n 1) 1 1 := ⟨by decide +kernel, rfl⟩
theorem e_X8_share_1 : kk_d cX8_share 1 (.aload_n 0) 1 2 := ⟨by decide +kernel, rfl⟩
theorem e_X8_share_2 : kk_d cX8_share 2 (.getfield 18) 3 5 := ⟨by decide +kernel, rfl⟩
theorem e_X8_share_5 : kk_d cX8_share 5 (.getfield 32) 3 8 := ⟨by decide +kernel, rfl⟩
theorem e_X8_share_8 : kk_dj cX8_share 8 (.if_icmp .ge 9) 3 (9) 11 17 := ⟨by decide +kernel, rfl, by decide⟩
theorem e_X8_share_17 : kk_d cX8_share 17 (.aload_n 0) 1 18 := ⟨by decide +kernel, rfl⟩
theorem e_X8_share_18 : kk_d cX8_share 18 (.getfield 15) 3 21 := ⟨by decide +kernel, rfl⟩
theorem e_X8_share_21 : kk_d cX8_share 21 (.iload_n 2) 1 22 := ⟨by decide +kernel, rfl⟩
theorem e_X8_share_22 : kk_d cX8_share 22 .dup2 1 23 := ⟨by decide +kernel, rfl⟩
theorem e_X8_share_23 : kk_d cX8_share 23 .iaload 1 24 := ⟨by decide +kernel, rfl⟩
theorem e_X8_share_24 : kk_d cX8_share 24 (.iconst 1) 1 25 := ⟨by decide +kernel, rfl⟩
theorem e_X8_share_25 : kk_d cX8_share 25 .iadd 1 26 := ⟨by decide +kernel, rfl⟩
theorem e_X8_share_26 : kk_d cX8_share 26 .iastore 1 27 := ⟨by decide +kernel, rfl⟩
theorem e_X8_share_27 : kk_d cX8_share 27 .return_ 1 28 := ⟨by decide +kernel, rfl⟩
theorem e_X8_share_11 : kk_d cX8_share 11 (.iload_n 1) 1 12 := ⟨by decide +kernel, rfl⟩
theorem e_X8_share_12 : kk_d cX8_share 12 (.bipush 9) 2 14 := ⟨by decide +kernel, rfl⟩
theorem e_X8_share_14 : kk_dj cX8_share 14 (.if_icmp .lt 14) 3 (14) 17 28 := ⟨by decide +kernel, rfl, by decide⟩
theorem e_X8_share_28 : kk_d cX8_share 28 (.iconst 0) 1 29 := ⟨by decide +kernel, rfl⟩
theorem e_X8_share_29 : kk_d cX8_share 29 (.istore_n 3) 1 30 := ⟨by decide +kernel, rfl⟩
theorem e_X8_share_106 : kk_d cX8_share 106 .return_ 1 107 := ⟨by decide +kernel, rfl⟩
theorem e_X8_share_30 : kk_d cX8_share 30 (.iload_n 3) 1 31 := ⟨by decide +kernel, rfl⟩
theorem e_X8_share_31 : kk_d cX8_share 31 (.iload_n 2) 1 32 := ⟨by decide +kernel, rfl⟩
theorem e_X8_share_32 : kk_dj cX8_share 32 (.if_icmp .gt 74) 3 (74) 35 106 := ⟨by decide +kernel, rfl, by decide⟩
theorem e_X8_share_35 : kk_d cX8_share 35 (.iload_n 3) 1 36 := ⟨by decide +kernel, rfl⟩
theorem e_X8_share_36 : kk_d cX8_share 36 (.bipush 9) 2 38 := ⟨by decide +kernel, rfl⟩
theorem e_X8_share_38 : kk_dj cX8_share 38 (.if_icmp .ge 68) 3 (68) 41 106 := ⟨by decide +kernel, rfl, by decide⟩
theorem e_X8_share_41 : kk_d cX8_share 41 (.aload_n 0) 1 42 := ⟨by decide +kernel, rfl⟩
theorem e_X8_share_42 : kk_d cX8_share 42 (.getfield 9) 3 45 := ⟨by decide +kernel, rfl⟩
theorem e_X8_share_45 : kk_d cX8_share 45 (.iload_n 3) 1 46 := ⟨by decide +kernel, rfl⟩
theorem e_X8_share_46 : kk_d cX8_share 46 .iaload 1 47 := ⟨by decide +kernel, rfl⟩
theorem e_X8_share_47 : kk_d cX8_share 47 (.aload_n 0) 1 48 := ⟨by decide +kernel, rfl⟩
theorem e_X8_share_48 : kk_d cX8_share 48 (.getfield 18) 3 51 := ⟨by decide +kernel, rfl⟩
theorem e_X8_share_51 : kk_d cX8_share 51 (.getfield 38) 3 54 := ⟨by decide +kernel, rfl⟩
theorem e_X8_share_54 : kk_d cX8_share 54 (.iload_n 1) 1 55 := ⟨by decide +kernel, rfl⟩
theorem e_X8_share_55 : kk_d cX8_share 55 .iaload 1 56 := ⟨by decide +kernel, rfl⟩
theorem e_X8_share_56 : kk_d cX8_share 56 .iand 1 57 := ⟨by decide +kernel, rfl⟩
theorem e_X8_share_57 : kk_dj cX8_share 57 (.ifCond .ne 43) 3 (43) 60 100 := ⟨by decide +kernel, rfl, by decide⟩
theorem e_X8_share_100 : kk_d cX8_share 100 (.iinc 3 1) 3 103 := ⟨by decide +kernel, rfl⟩
theorem e_X8_share_103 : kk_dj cX8_share 103 (.goto (-73)) 3 (-73) 106 30 := ⟨by decide +kernel, rfl, by decide⟩
theorem e_X8_share_60 : kk_d cX8_share 60 (.aload_n 0) 1 61 := ⟨by decide +kernel, rfl⟩
theorem e_X8_share_61 : kk_d cX8_share 61 (.getfield 9) 3 64 := ⟨by decide +kernel, rfl⟩
theorem e_X8_share_64 : kk_d cX8_share 64 (.iload_n 3) 1 65 := ⟨by decide +kernel, rfl⟩
theorem e_X8_share_65 : kk_d cX8_share 65 .dup2 1 66 := ⟨by decide +kernel, rfl⟩
theorem e_X8_share_66 : kk_d cX8_share 66 .iaload 1 67 := ⟨by decide +kernel, rfl⟩
theorem e_X8_share_67 : kk_d cX8_share 67 (.iconst 1) 1 68 := ⟨by decide +kernel, rfl⟩
theorem e_X8_share_68 : kk_d cX8_share 68 (.iload_n 1) 1 69 := ⟨by decide +kernel, rfl⟩
theorem e_X8_share_69 : kk_d cX8_share 69 .ishl 1 70 := ⟨by decide +kernel, rfl⟩
theorem e_X8_share_70 : kk_d cX8_share 70 .ior 1 71 := ⟨by decide +kernel, rfl⟩
theorem e_X8_share_71 : kk_d cX8_share 71 .iastore 1 72 := ⟨by decide +kernel, rfl⟩
theorem e_X8_share_72 : kk_d cX8_share 72 (.aload_n 0) 1 73 := ⟨by decide +kernel, rfl⟩
theorem e_X8_share_73 : kk_d cX8_share 73 (.iload_n 1) 1 74 := ⟨by decide +kernel, rfl⟩
theorem e_X8_share_74 : kk_d cX8_share 74 (.iconst 1) 1 75 := ⟨by decide +kernel, rfl⟩
theorem e_X8_share_75 : kk_d cX8_share 75 .iadd 1 76 := ⟨by decide +kernel, rfl⟩
theorem e_X8_share_76 : kk_d cX8_share 76 (.iload_n 2) 1 77 := ⟨by decide +kernel, rfl⟩
theorem e_X8_share_77 : kk_d cX8_share 77 (.iload_n 3) 1 78 := ⟨by decide +kernel, rfl⟩
theorem e_X8_share_78 : kk_d cX8_share 78 (.iconst 1) 1 79 := ⟨by decide +kernel, rfl⟩
theorem e_X8_share_79 : kk_d cX8_share 79 .iadd 1 80 := ⟨by decide +kernel, rfl⟩
theorem e_X8_share_80 : kk_d cX8_share 80 (.invokestatic 41) 3 83 := ⟨by decide +kernel, rfl⟩
theorem e_X8_share_83 : kk_d cX8_share 83 (.invokevirtual 28) 3 86 := ⟨by decide +kernel, rfl⟩
theorem e_X8_share_86 : kk_d cX8_share 86 (.aload_n 0) 1 87 := ⟨by decide +kernel, rfl⟩
theorem e_X8_share_87 : kk_d cX8_share 87 (.getfield 9) 3 90 := ⟨by decide +kernel, rfl⟩
theorem e_X8_share_90 : kk_d cX8_share 90 (.iload_n 3) 1 91 := ⟨by decide +kernel, rfl⟩
theorem e_X8_share_91 : kk_d cX8_share 91 .dup2 1 92 := ⟨by decide +kernel, rfl⟩
theorem e_X8_share_92 : kk_d cX8_share 92 .iaload 1 93 := ⟨by decide +kernel, rfl⟩
theorem e_X8_share_93 : kk_d cX8_share 93 (.iconst 1) 1 94 := ⟨by decide +kernel, rfl⟩
theorem e_X8_share_94 : kk_d cX8_share 94 (.iload_n 1) 1 95 := ⟨by decide +kernel, rfl⟩
theorem e_X8_share_95 : kk_d cX8_share 95 .ishl 1 96 := ⟨by decide +kernel, rfl⟩
theorem e_X8_share_96 : kk_d cX8_share 96 (.iconst (-1)) 1 97 := ⟨by decide +kernel, rfl⟩
theorem e_X8_share_97 : kk_d cX8_share 97 .ixor 1 98 := ⟨by decide +kernel, rfl⟩
theorem e_X8_share_98 : kk_d cX8_share 98 .iand 1 99 := ⟨by decide +kernel, rfl⟩
theorem e_X8_share_99 : kk_d cX8_share 99 .iastore 1 100 := ⟨by decide +kernel, rfl⟩
set_option maxRecDepth 4000 in
theorem s_X8_share (Z : kk_Z) : ∀ (n : Nat) (v1 : Int32) (v2 : Int32) (σ : kk_St) (Q : kk_St → Prop), f_X8_share n v1 v2 σ Q → kk_M Z sh_C yX8_share cX8_share 4 none (kk_R (1 * n + 2)) [.ref (Z.2.1 9), .int v1, .int v2] σ (kk_Qv Z sh_C Q) := by
  intro n
  induction n with
  | zero => intro _ _ _ _ h; exact h.elim
  | succ n ih =>
    intro v1 v2 σ Q h
    unfold f_X8_share at h
    refine kk_met (own := RX8) (by decide) rfl (Nat.le_of_ble_eq_true rfl) rfl ?_
    refine kk_iload_n 1 rfl e_X8_share_0 ?_
    refine kk_aload_n 0 rfl e_X8_share_1 ?_
    refine kk_getr e_X8_share_2 fl_X8_18 rfl rfl ?_
    refine kk_geti e_X8_share_5 fl_X8_32 rfl rfl ?_
    refine kk_jW0 (P := KK Z sh_C RX8 cX8_share 4 none (kk_R (1 * (n + 1) + 2)) (kk_Qv Z sh_C Q) 17 [(0, .ref (Z.2.1 9)), (2, .int v2)] [] σ) h ?_ ?_
    · intro h
      refine kk_aload_n 0 rfl e_X8_share_17 ?_
      refine kk_getr e_X8_share_18 fl_X8_15 rfl rfl ?_
      refine kk_iload_n 1 rfl e_X8_share_21 ?_
      refine kk_dup2 rfl rfl e_X8_share_22 ?_
      refine kk_iald e_X8_share_23 rfl h.1 ?_
      replace h := h.2
      refine kk_iconst ic_1 e_X8_share_24 ?_
      refine kk_iadd e_X8_share_25 ?_
      refine kk_iast e_X8_share_26 rfl h.1 ?_
      replace h := h.2
      refine kk_tops (fun σ_2 eσ_2 => ?_)
      replace h := h σ_2 eσ_2
      exact kk_vret e_X8_share_27 h
    · intro J_1 hJ_1 h
      refine kk_icmp_ge e_X8_share_8 (fun c_17 => ?_) (fun c_17 => ?_)
      · replace h := h.1 c_17
        exact kk_sub [0, 2] rfl (hJ_1 h)
      · replace h := h.2 c_17
        refine kk_iload_n 1 rfl e_X8_share_11 ?_
        refine kk_bipush bp_9 e_X8_share_12 ?_
        refine kk_icmp_lt e_X8_share_14 (fun c_16 => ?_) (fun c_16 => ?_)
        · replace h := h.1 c_16
          refine kk_iconst ic_0 e_X8_share_28 ?_
          refine kk_istore_n (lv' := [(3, .int (0 : Int32)), (0, .ref (Z.2.1 9)), (1, .int v1), (2, .int v2)]) e_X8_share_29 rfl (by decide) rfl ?_
          refine kk_jW1 (P := fun (σ_3 : kk_St) => KK Z sh_C RX8 cX8_share 4 none (kk_R (1 * (n + 1) + 2)) (kk_Qv Z sh_C Q) 106 [] [] σ_3) h ?_ ?_
          · intro σ_3 h
            exact kk_vret e_X8_share_106 h
          · intro J_4 hJ_4 h
            refine kk_sub [1, 2, 3, 0] rfl ?_
            refine kk_lpW2 (P := fun (v3_5 : Int32) (σ_6 : kk_St) => KK Z sh_C RX8 cX8_share 4 none (kk_R (1 * (n + 1) + 2)) (kk_Qv Z sh_C Q) 30 [(0, .ref (Z.2.1 9)), (1, .int v1), (2, .int v2), (3, .int v3_5)] [] σ_6) ?_ h
            intro rec_7 hrec_7 v3_5 σ_6 h
            refine kk_iload_n 3 rfl e_X8_share_30 ?_
            refine kk_iload_n 2 rfl e_X8_share_31 ?_
            refine kk_icmp_gt e_X8_share_32 (fun c_15 => ?_) (fun c_15 => ?_)
            · replace h := h.1 c_15
              exact kk_sub [] rfl (hJ_4 σ_6 h)
            · replace h := h.2 c_15
              refine kk_iload_n 3 rfl e_X8_share_35 ?_
              refine kk_bipush bp_9 e_X8_share_36 ?_
              refine kk_icmp_ge e_X8_share_38 (fun c_14 => ?_) (fun c_14 => ?_)
              · replace h := h.1 c_14
                exact kk_sub [] rfl (hJ_4 σ_6 h)
              · replace h := h.2 c_14
                refine kk_aload_n 0 rfl e_X8_share_41 ?_
                refine kk_getr e_X8_share_42 fl_X8_9 rfl rfl ?_
                refine kk_iload_n 3 rfl e_X8_share_45 ?_
                refine kk_iald e_X8_share_46 rfl h.1 ?_
                replace h := h.2
                refine kk_aload_n 0 rfl e_X8_share_47 ?_
                refine kk_getr e_X8_share_48 fl_X8_18 rfl rfl ?_
                refine kk_getr e_X8_share_51 fl_X8_38 rfl rfl ?_
                refine kk_iload_n 1 rfl e_X8_share_54 ?_
                refine kk_iald e_X8_share_55 rfl h.1 ?_
                replace h := h.2
                refine kk_iand e_X8_share_56 ?_
                refine kk_jW1 (P := fun (σ_8 : kk_St) => KK Z sh_C RX8 cX8_share 4 none (kk_R (1 * (n + 1) + 2)) (kk_Qv Z sh_C Q) 100 [(0, .ref (Z.2.1 9)), (1, .int v1), (2, .int v2), (3, .int v3_5)] [] σ_8) h ?_ ?_
                · intro σ_8 h
                  refine kk_iinc (lv' := [(3, .int (v3_5 + (1 : Int32))), (0, .ref (Z.2.1 9)), (1, .int v1), (2, .int v2)]) e_X8_share_100 (j := 3) rfl (ii_1 v3_5) (by decide) rfl ?_
                  refine kk_goto e_X8_share_103 ?_
                  exact kk_sub [1, 2, 3, 0] rfl (hrec_7 (v3_5 + (1 : Int32)) σ_8 h)
                · intro J_9 hJ_9 h
                  refine kk_if_ne e_X8_share_57 (fun c_13 => ?_) (fun c_13 => ?_)
                  · replace h := h.1 c_13
                    exact kk_sub [0, 1, 2, 3] rfl (hJ_9 σ_6 h)
                  · replace h := h.2 c_13
                    refine kk_aload_n 0 rfl e_X8_share_60 ?_
                    refine kk_getr e_X8_share_61 fl_X8_9 rfl rfl ?_
                    refine kk_iload_n 3 rfl e_X8_share_64 ?_
                    refine kk_dup2 rfl rfl e_X8_share_65 ?_
                    refine kk_iald e_X8_share_66 rfl h.1 ?_
                    replace h := h.2
                    refine kk_iconst ic_1 e_X8_share_67 ?_
                    refine kk_iload_n 1 rfl e_X8_share_68 ?_
                    refine kk_ishl e_X8_share_69 ?_
                    refine kk_ior e_X8_share_70 ?_
                    refine kk_iast e_X8_share_71 rfl h.1 ?_
                    replace h := h.2
                    refine kk_tops (fun σ_10 eσ_10 => ?_)
                    replace h := h σ_10 eσ_10
                    refine kk_aload_n 0 rfl e_X8_share_72 ?_
                    refine kk_iload_n 1 rfl e_X8_share_73 ?_
                    refine kk_iconst ic_1 e_X8_share_74 ?_
                    refine kk_iadd e_X8_share_75 ?_
                    refine kk_iload_n 2 rfl e_X8_share_76 ?_
                    refine kk_iload_n 3 rfl e_X8_share_77 ?_
                    refine kk_iconst ic_1 e_X8_share_78 ?_
                    refine kk_iadd e_X8_share_79 ?_
                    refine kk_mmax e_X8_share_80 mx_X8_41 mx_max_static mx_init mx_max_code ⟨Nat.le_of_ble_eq_true rfl, Nat.le_of_ble_eq_true rfl⟩ ?_
                    refine kk_callVv (As := [.int (v1 + (1 : Int32)), .int (kk_max v2 (v3_5 + (1 : Int32)))]) (rest := []) e_X8_share_83 ml_X8_28 ⟨_, _, _, _, rfl, rfl⟩ rfl (kk_fitR (by omega) (by decide)) (Nat.le_of_ble_eq_true rfl) rfl (ih (v1 + (1 : Int32)) (kk_max v2 (v3_5 + (1 : Int32))) σ_10 _ h) (fun σ_11 h => ?_)
                    refine kk_aload_n 0 rfl e_X8_share_86 ?_
                    refine kk_getr e_X8_share_87 fl_X8_9 rfl rfl ?_
                    refine kk_iload_n 3 rfl e_X8_share_90 ?_
                    refine kk_dup2 rfl rfl e_X8_share_91 ?_
                    refine kk_iald e_X8_share_92 rfl h.1 ?_
                    replace h := h.2
                    refine kk_iconst ic_1 e_X8_share_93 ?_
                    refine kk_iload_n 1 rfl e_X8_share_94 ?_
                    refine kk_ishl e_X8_share_95 ?_
                    refine kk_iconst ic_m1 e_X8_share_96 ?_
                    refine kk_ixor e_X8_share_97 ?_
                    refine kk_iand e_X8_share_98 ?_
                    refine kk_iast e_X8_share_99 rfl h.1 ?_
                    replace h := h.2
                    refine kk_tops (fun σ_12 eσ_12 => ?_)
                    replace h := h σ_12 eσ_12
                    exact kk_sub [0, 1, 2, 3] rfl (hJ_9 σ_12 h)
        · replace h := h.2 c_16
          exact kk_sub [0, 2] rfl (hJ_1 h)
theorem e_X8_countColourings_0 : kk_d cX8_countColourings 0 (.aload_n 0) 1 1 := ⟨by decide +kernel, rfl⟩
theorem e_X8_countColourings_1 : kk_d cX8_countColourings 1 (.getfield 15) 3 4 := ⟨by decide +kernel, rfl⟩
theorem e_X8_countColourings_4 : kk_d cX8_countColourings 4 (.iconst 0) 1 5 := ⟨by decide +kernel, rfl⟩
theorem e_X8_countColourings_5 : kk_d cX8_countColourings 5 (.invokestatic 22) 3 8 := ⟨by decide +kernel, rfl⟩
theorem e_X8_countColourings_8 : kk_d cX8_countColourings 8 (.aload_n 0) 1 9 := ⟨by decide +kernel, rfl⟩
theorem e_X8_countColourings_9 : kk_d cX8_countColourings 9 (.getfield 9) 3 12 := ⟨by decide +kernel, rfl⟩
theorem e_X8_countColourings_12 : kk_d cX8_countColourings 12 (.iconst 0) 1 13 := ⟨by decide +kernel, rfl⟩
theorem e_X8_countColourings_13 : kk_d cX8_countColourings 13 (.invokestatic 22) 3 16 := ⟨by decide +kernel, rfl⟩
theorem e_X8_countColourings_16 : kk_d cX8_countColourings 16 (.aload_n 0) 1 17 := ⟨by decide +kernel, rfl⟩
theorem e_X8_countColourings_17 : kk_d cX8_countColourings 17 (.iconst 0) 1 18 := ⟨by decide +kernel, rfl⟩
theorem e_X8_countColourings_18 : kk_d cX8_countColourings 18 (.iconst 0) 1 19 := ⟨by decide +kernel, rfl⟩
theorem e_X8_countColourings_19 : kk_d cX8_countColourings 19 (.invokevirtual 28) 3 22 := ⟨by decide +kernel, rfl⟩
theorem e_X8_countColourings_22 : kk_d cX8_countColourings 22 (.lconst 0) 1 23 := ⟨by decide +kernel, rfl⟩
theorem e_X8_countColourings_23 : kk_d cX8_countColourings 23 (.lstore_n 2) 1 24 := ⟨by decide +kernel, rfl⟩
theorem e_X8_countColourings_24 : kk_d cX8_countColourings 24 (.lconst 1) 1 25 := ⟨by decide +kernel, rfl⟩
theorem e_X8_countColourings_25 : kk_d cX8_countColourings 25 (.lstore 4) 2 27 := ⟨by decide +kernel, rfl⟩
theorem e_X8_countColourings_27 : kk_d cX8_countColourings 27 (.iconst 0) 1 28 := ⟨by decide +kernel, rfl⟩
theorem e_X8_countColourings_28 : kk_d cX8_countColourings 28 (.istore 6) 2 30 := ⟨by decide +kernel, rfl⟩
theorem e_X8_countColourings_30 : kk_d cX8_countColourings 30 (.iload 6) 2 32 := ⟨by decide +kernel, rfl⟩
theorem e_X8_countColourings_32 : kk_d cX8_countColourings 32 (.bipush 9) 2 34 := ⟨by decide +kernel, rfl⟩
theorem e_X8_countColourings_34 : kk_dj cX8_countColourings 34 (.if_icmp .gt 33) 3 (33) 37 67 := ⟨by decide +kernel, rfl, by decide⟩
theorem e_X8_countColourings_67 : kk_d cX8_countColourings 67 (.lload_n 2) 1 68 := ⟨by decide +kernel, rfl⟩
theorem e_X8_countColourings_68 : kk_d cX8_countColourings 68 .lreturn 1 69 := ⟨by decide +kernel, rfl⟩
theorem e_X8_countColourings_37 : kk_d cX8_countColourings 37 (.lload_n 2) 1 38 := ⟨by decide +kernel, rfl⟩
theorem e_X8_countColourings_38 : kk_d cX8_countColourings 38 (.aload_n 0) 1 39 := ⟨by decide +kernel, rfl⟩
theorem e_X8_countColourings_39 : kk_d cX8_countColourings 39 (.getfield 15) 3 42 := ⟨by decide +kernel, rfl⟩
theorem e_X8_countColourings_42 : kk_d cX8_countColourings 42 (.iload 6) 2 44 := ⟨by decide +kernel, rfl⟩
theorem e_X8_countColourings_44 : kk_d cX8_countColourings 44 .iaload 1 45 := ⟨by decide +kernel, rfl⟩
theorem e_X8_countColourings_45 : kk_d cX8_countColourings 45 .i2l 1 46 := ⟨by decide +kernel, rfl⟩
theorem e_X8_countColourings_46 : kk_d cX8_countColourings 46 (.lload 4) 2 48 := ⟨by decide +kernel, rfl⟩
theorem e_X8_countColourings_48 : kk_d cX8_countColourings 48 .lmul 1 49 := ⟨by decide +kernel, rfl⟩
theorem e_X8_countColourings_49 : kk_d cX8_countColourings 49 .ladd 1 50 := ⟨by decide +kernel, rfl⟩
theorem e_X8_countColourings_50 : kk_d cX8_countColourings 50 (.lstore_n 2) 1 51 := ⟨by decide +kernel, rfl⟩
theorem e_X8_countColourings_51 : kk_d cX8_countColourings 51 (.lload 4) 2 53 := ⟨by decide +kernel, rfl⟩
theorem e_X8_countColourings_53 : kk_d cX8_countColourings 53 (.iload_n 1) 1 54 := ⟨by decide +kernel, rfl⟩
theorem e_X8_countColourings_54 : kk_d cX8_countColourings 54 (.iload 6) 2 56 := ⟨by decide +kernel, rfl⟩
theorem e_X8_countColourings_56 : kk_d cX8_countColourings 56 .isub 1 57 := ⟨by decide +kernel, rfl⟩
theorem e_X8_countColourings_57 : kk_d cX8_countColourings 57 .i2l 1 58 := ⟨by decide +kernel, rfl⟩
theorem e_X8_countColourings_58 : kk_d cX8_countColourings 58 .lmul 1 59 := ⟨by decide +kernel, rfl⟩
theorem e_X8_countColourings_59 : kk_d cX8_countColourings 59 (.lstore 4) 2 61 := ⟨by decide +kernel, rfl⟩
theorem e_X8_countColourings_61 : kk_d cX8_countColourings 61 (.iinc 6 1) 3 64 := ⟨by decide +kernel, rfl⟩
theorem e_X8_countColourings_64 : kk_dj cX8_countColourings 64 (.goto (-34)) 3 (-34) 67 30 := ⟨by decide +kernel, rfl, by decide⟩
set_option maxRecDepth 4000 in
theorem s_X8_countColourings (Z : kk_Z) (v1 : Int32) (σ : kk_St) (Q : Int64 → kk_St → Prop) (h : f_X8_countColourings v1 σ Q) : kk_M Z sh_C yX8_countColourings cX8_countColourings 7 (some .long) (kk_R 33) [.ref (Z.2.1 9), .int v1] σ (kk_Ql Z sh_C Q) := by
  unfold f_X8_countColourings at h
  refine kk_met (own := RX8) (by decide) rfl (Nat.le_of_ble_eq_true rfl) rfl ?_
  refine kk_aload_n 0 rfl e_X8_countColourings_0 ?_
  refine kk_getr e_X8_countColourings_1 fl_X8_15 rfl rfl ?_
  refine kk_iconst ic_0 e_X8_countColourings_4 ?_
  refine kk_callSv (As := [.ref (Z.2.1 26), .int (0 : Int32)]) (rest := []) e_X8_countColourings_5 ml_X8_22 rfl (kk_fitR (by decide) (by decide)) (Nat.le_of_ble_eq_true rfl) rfl (s_J7_fill_53178 Z 26 10 (0 : Int32) σ _ rfl h) (fun σ_1 h => ?_)
  refine kk_aload_n 0 rfl e_X8_countColourings_8 ?_
  refine kk_getr e_X8_countColourings_9 fl_X8_9 rfl rfl ?_
  refine kk_iconst ic_0 e_X8_countColourings_12 ?_
  refine kk_callSv (As := [.ref (Z.2.1 25), .int (0 : Int32)]) (rest := []) e_X8_countColourings_13 ml_X8_22 rfl (kk_fitR (by decide) (by decide)) (Nat.le_of_ble_eq_true rfl) rfl (s_J7_fill_53178 Z 25 9 (0 : Int32) σ_1 _ rfl h) (fun σ_2 h => ?_)
  refine kk_aload_n 0 rfl e_X8_countColourings_16 ?_
  refine kk_iconst ic_0 e_X8_countColourings_17 ?_
  refine kk_iconst ic_0 e_X8_countColourings_18 ?_
  refine kk_callVv (As := [.int (0 : Int32), .int (0 : Int32)]) (rest := []) e_X8_countColourings_19 ml_X8_28 ⟨_, _, _, _, rfl, rfl⟩ rfl (kk_fitR (by decide) (by decide)) (Nat.le_of_ble_eq_true rfl) rfl (s_X8_share Z 30 (0 : Int32) (0 : Int32) σ_2 _ h) (fun σ_3 h => ?_)
  refine kk_lconst lc_0 e_X8_countColourings_22 ?_
  refine kk_lstore_n (lv' := [(2, .long (0 : Int64)), (0, .ref (Z.2.1 9)), (1, .int v1)]) e_X8_countColourings_23 rfl (by decide) rfl ?_
  refine kk_lconst lc_1 e_X8_countColourings_24 ?_
  refine kk_lstore (lv' := [(4, .long (1 : Int64)), (2, .long (0 : Int64)), (0, .ref (Z.2.1 9)), (1, .int v1)]) e_X8_countColourings_25 (by decide) rfl ?_
  refine kk_iconst ic_0 e_X8_countColourings_27 ?_
  refine kk_istore (lv' := [(6, .int (0 : Int32)), (4, .long (1 : Int64)), (2, .long (0 : Int64)), (0, .ref (Z.2.1 9)), (1, .int v1)]) e_X8_countColourings_28 (by decide) rfl ?_
  refine kk_sub [3, 4, 2, 1, 0] rfl ?_
  refine kk_lpW3 (P := fun (v2_4 : Int64) (v4_5 : Int64) (v6_6 : Int32) => KK Z sh_C RX8 cX8_countColourings 7 (some .long) (kk_R 33) (kk_Ql Z sh_C Q) 30 [(0, .ref (Z.2.1 9)), (1, .int v1), (2, .long v2_4), (4, .long v4_5), (6, .int v6_6)] [] σ_3) ?_ h
  intro rec_7 hrec_7 v2_4 v4_5 v6_6 h
  refine kk_iload 4 rfl e_X8_countColourings_30 ?_
  refine kk_bipush bp_9 e_X8_countColourings_32 ?_
  refine kk_icmp_gt e_X8_countColourings_34 (fun c_10 => ?_) (fun c_10 => ?_)
  · replace h := h.1 c_10
    refine kk_lload_n 2 rfl e_X8_countColourings_67 ?_
    exact kk_lret e_X8_countColourings_68 h
  · replace h := h.2 c_10
    refine kk_lload_n 2 rfl e_X8_countColourings_37 ?_
    refine kk_aload_n 0 rfl e_X8_countColourings_38 ?_
    refine kk_getr e_X8_countColourings_39 fl_X8_15 rfl rfl ?_
    refine kk_iload 4 rfl e_X8_countColourings_42 ?_
    refine kk_iald e_X8_countColourings_44 rfl h.1 ?_
    replace h := h.2
    refine kk_i2l e_X8_countColourings_45 ?_
    refine kk_lload 3 rfl e_X8_countColourings_46 ?_
    refine kk_lmul e_X8_countColourings_48 ?_
    refine kk_ladd e_X8_countColourings_49 ?_
    refine kk_topl (fun v2_8 ev2_8 => ?_)
    replace h := h v2_8 ev2_8
    refine kk_lstore_n (lv' := [(2, .long v2_8), (0, .ref (Z.2.1 9)), (1, .int v1), (4, .long v4_5), (6, .int v6_6)]) e_X8_countColourings_50 rfl (by decide) rfl ?_
    refine kk_lload 3 rfl e_X8_countColourings_51 ?_
    refine kk_iload_n 2 rfl e_X8_countColourings_53 ?_
    refine kk_iload 4 rfl e_X8_countColourings_54 ?_
    refine kk_isub e_X8_countColourings_56 ?_
    refine kk_i2l e_X8_countColourings_57 ?_
    refine kk_lmul e_X8_countColourings_58 ?_
    refine kk_topl (fun v4_9 ev4_9 => ?_)
    replace h := h v4_9 ev4_9
    refine kk_lstore (lv' := [(4, .long v4_9), (2, .long v2_8), (0, .ref (Z.2.1 9)), (1, .int v1), (6, .int v6_6)]) e_X8_countColourings_59 (by decide) rfl ?_
    refine kk_iinc (lv' := [(6, .int (v6_6 + (1 : Int32))), (4, .long v4_9), (2, .long v2_8), (0, .ref (Z.2.1 9)), (1, .int v1)]) e_X8_countColourings_61 (j := 4) rfl (ii_1 v6_6) (by decide) rfl ?_
    refine kk_goto e_X8_countColourings_64 ?_
    exact kk_sub [3, 4, 2, 1, 0] rfl (hrec_7 v2_8 v4_9 (v6_6 + (1 : Int32)) h)
