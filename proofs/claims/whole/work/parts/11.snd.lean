theorem e_X3_freeAt_0 : kk_d cX3_freeAt 0 (.iconst 1) 1 1 := ⟨by decide +kernel, rfl⟩
theorem e_X3_freeAt_1 : kk_d cX3_freeAt 1 (.aload_n 0) 1 2 := ⟨by decide +kernel, rfl⟩
theorem e_X3_freeAt_2 : kk_d cX3_freeAt 2 (.invokevirtual 34) 3 5 := ⟨by decide +kernel, rfl⟩
theorem e_X3_freeAt_5 : kk_d cX3_freeAt 5 .ishl 1 6 := ⟨by decide +kernel, rfl⟩
theorem e_X3_freeAt_6 : kk_d cX3_freeAt 6 (.iconst 1) 1 7 := ⟨by decide +kernel, rfl⟩
theorem e_X3_freeAt_7 : kk_d cX3_freeAt 7 .isub 1 8 := ⟨by decide +kernel, rfl⟩
theorem e_X3_freeAt_8 : kk_d cX3_freeAt 8 (.aload_n 0) 1 9 := ⟨by decide +kernel, rfl⟩
theorem e_X3_freeAt_9 : kk_d cX3_freeAt 9 (.iload_n 1) 1 10 := ⟨by decide +kernel, rfl⟩
theorem e_X3_freeAt_10 : kk_d cX3_freeAt 10 (.invokevirtual 63) 3 13 := ⟨by decide +kernel, rfl⟩
theorem e_X3_freeAt_13 : kk_d cX3_freeAt 13 (.iconst (-1)) 1 14 := ⟨by decide +kernel, rfl⟩
theorem e_X3_freeAt_14 : kk_d cX3_freeAt 14 .ixor 1 15 := ⟨by decide +kernel, rfl⟩
theorem e_X3_freeAt_15 : kk_d cX3_freeAt 15 .iand 1 16 := ⟨by decide +kernel, rfl⟩
theorem e_X3_freeAt_16 : kk_d cX3_freeAt 16 .ireturn 1 17 := ⟨by decide +kernel, rfl⟩
set_option maxRecDepth 4000 in
theorem s_X3_freeAt (Z : kk_Z) (v1 : Int32) (σ : kk_St) (Q : Int32 → Prop) (h : f_X3_freeAt v1 σ Q) : kk_M Z sh_C yX3_freeAt cX3_freeAt 2 (some .int) (kk_R 3) [.ref (Z.2.1 2), .int v1] σ (kk_Qi Z sh_C (fun r σ' => σ' = σ ∧ Q r)) := by
  unfold f_X3_freeAt at h
  refine kk_met (own := RX3) (by decide) rfl (Nat.le_of_ble_eq_true rfl) rfl ?_
  refine kk_iconst ic_1 e_X3_freeAt_0 ?_
  refine kk_aload_n 0 rfl e_X3_freeAt_1 ?_
  refine kk_callVip (As := []) (rest := [.int (1 : Int32)]) e_X3_freeAt_2 ml_X3_34 ⟨_, _, _, _, rfl, rfl⟩ rfl (kk_fitR (by decide) (by decide)) (Nat.le_of_ble_eq_true rfl) rfl (s_X3_colours Z σ _ h) (fun r_1 h => ?_)
  refine kk_ishl e_X3_freeAt_5 ?_
  refine kk_iconst ic_1 e_X3_freeAt_6 ?_
  refine kk_isub e_X3_freeAt_7 ?_
  refine kk_aload_n 0 rfl e_X3_freeAt_8 ?_
  refine kk_iload_n 1 rfl e_X3_freeAt_9 ?_
  refine kk_callVip (As := [.int v1]) (rest := [.int (((1 : Int32) <<< (r_1 &&& 31)) - (1 : Int32))]) e_X3_freeAt_10 ml_X3_63 ⟨_, _, _, _, rfl, rfl⟩ rfl (kk_fitR (by decide) (by decide)) (Nat.le_of_ble_eq_true rfl) rfl (s_X3_coloursAt Z v1 σ _ h) (fun r_2 h => ?_)
  refine kk_iconst ic_m1 e_X3_freeAt_13 ?_
  refine kk_ixor e_X3_freeAt_14 ?_
  refine kk_iand e_X3_freeAt_15 ?_
  exact kk_iret e_X3_freeAt_16 ⟨rfl, h⟩
theorem e_X3_freeAtBoth_0 : kk_d cX3_freeAtBoth 0 (.aload_n 0) 1 1 := ⟨by decide +kernel, rfl⟩
theorem e_X3_freeAtBoth_1 : kk_d cX3_freeAtBoth 1 (.aload_n 0) 1 2 := ⟨by decide +kernel, rfl⟩
theorem e_X3_freeAtBoth_2 : kk_d cX3_freeAtBoth 2 (.getfield 18) 3 5 := ⟨by decide +kernel, rfl⟩
theorem e_X3_freeAtBoth_5 : kk_d cX3_freeAtBoth 5 (.getfield 66) 3 8 := ⟨by decide +kernel, rfl⟩
theorem e_X3_freeAtBoth_8 : kk_d cX3_freeAtBoth 8 (.iload_n 1) 1 9 := ⟨by decide +kernel, rfl⟩
theorem e_X3_freeAtBoth_9 : kk_d cX3_freeAtBoth 9 .iaload 1 10 := ⟨by decide +kernel, rfl⟩
theorem e_X3_freeAtBoth_10 : kk_d cX3_freeAtBoth 10 (.invokevirtual 69) 3 13 := ⟨by decide +kernel, rfl⟩
theorem e_X3_freeAtBoth_13 : kk_d cX3_freeAtBoth 13 (.aload_n 0) 1 14 := ⟨by decide +kernel, rfl⟩
theorem e_X3_freeAtBoth_14 : kk_d cX3_freeAtBoth 14 (.aload_n 0) 1 15 := ⟨by decide +kernel, rfl⟩
theorem e_X3_freeAtBoth_15 : kk_d cX3_freeAtBoth 15 (.getfield 18) 3 18 := ⟨by decide +kernel, rfl⟩
theorem e_X3_freeAtBoth_18 : kk_d cX3_freeAtBoth 18 (.getfield 72) 3 21 := ⟨by decide +kernel, rfl⟩
theorem e_X3_freeAtBoth_21 : kk_d cX3_freeAtBoth 21 (.iload_n 1) 1 22 := ⟨by decide +kernel, rfl⟩
theorem e_X3_freeAtBoth_22 : kk_d cX3_freeAtBoth 22 .iaload 1 23 := ⟨by decide +kernel, rfl⟩
theorem e_X3_freeAtBoth_23 : kk_d cX3_freeAtBoth 23 (.invokevirtual 69) 3 26 := ⟨by decide +kernel, rfl⟩
theorem e_X3_freeAtBoth_26 : kk_d cX3_freeAtBoth 26 .iand 1 27 := ⟨by decide +kernel, rfl⟩
theorem e_X3_freeAtBoth_27 : kk_d cX3_freeAtBoth 27 .ireturn 1 28 := ⟨by decide +kernel, rfl⟩
set_option maxRecDepth 4000 in
theorem s_X3_freeAtBoth (Z : kk_Z) (v1 : Int32) (σ : kk_St) (Q : Int32 → Prop) (h : f_X3_freeAtBoth v1 σ Q) : kk_M Z sh_C yX3_freeAtBoth cX3_freeAtBoth 2 (some .int) (kk_R 4) [.ref (Z.2.1 2), .int v1] σ (kk_Qi Z sh_C (fun r σ' => σ' = σ ∧ Q r)) := by
  unfold f_X3_freeAtBoth at h
  refine kk_met (own := RX3) (by decide) rfl (Nat.le_of_ble_eq_true rfl) rfl ?_
  refine kk_aload_n 0 rfl e_X3_freeAtBoth_0 ?_
  refine kk_aload_n 0 rfl e_X3_freeAtBoth_1 ?_
  refine kk_getr e_X3_freeAtBoth_2 fl_X3_18 rfl rfl ?_
  refine kk_getr e_X3_freeAtBoth_5 fl_X3_66 rfl rfl ?_
  refine kk_iload_n 1 rfl e_X3_freeAtBoth_8 ?_
  refine kk_iald e_X3_freeAtBoth_9 rfl h.1 ?_
  replace h := h.2
  refine kk_callVip (As := [.int (kk_rd σ 11 v1)]) (rest := []) e_X3_freeAtBoth_10 ml_X3_69 ⟨_, _, _, _, rfl, rfl⟩ rfl (kk_fitR (by decide) (by decide)) (Nat.le_of_ble_eq_true rfl) rfl (s_X3_freeAt Z (kk_rd σ 11 v1) σ _ h) (fun r_1 h => ?_)
  refine kk_aload_n 0 rfl e_X3_freeAtBoth_13 ?_
  refine kk_aload_n 0 rfl e_X3_freeAtBoth_14 ?_
  refine kk_getr e_X3_freeAtBoth_15 fl_X3_18 rfl rfl ?_
  refine kk_getr e_X3_freeAtBoth_18 fl_X3_72 rfl rfl ?_
  refine kk_iload_n 1 rfl e_X3_freeAtBoth_21 ?_
  refine kk_iald e_X3_freeAtBoth_22 rfl h.1 ?_
  replace h := h.2
  refine kk_callVip (As := [.int (kk_rd σ 12 v1)]) (rest := [.int r_1]) e_X3_freeAtBoth_23 ml_X3_69 ⟨_, _, _, _, rfl, rfl⟩ rfl (kk_fitR (by decide) (by decide)) (Nat.le_of_ble_eq_true rfl) rfl (s_X3_freeAt Z (kk_rd σ 12 v1) σ _ h) (fun r_2 h => ?_)
  refine kk_iand e_X3_freeAtBoth_26 ?_
  exact kk_iret e_X3_freeAtBoth_27 ⟨rfl, h⟩
theorem e_X10_countEasy_0 : kk_d cX10_countEasy 0 (.iconst 1) 1 1 := ⟨by decide +kernel, rfl⟩
theorem e_X10_countEasy_1 : kk_d cX10_countEasy 1 (.aload_n 0) 1 2 := ⟨by decide +kernel, rfl⟩
theorem e_X10_countEasy_2 : kk_d cX10_countEasy 2 (.getfield 10) 3 5 := ⟨by decide +kernel, rfl⟩
theorem e_X10_countEasy_5 : kk_d cX10_countEasy 5 (.getfield 266) 3 8 := ⟨by decide +kernel, rfl⟩
theorem e_X10_countEasy_8 : kk_d cX10_countEasy 8 .ishl 1 9 := ⟨by decide +kernel, rfl⟩
theorem e_X10_countEasy_9 : kk_d cX10_countEasy 9 (.iconst 1) 1 10 := ⟨by decide +kernel, rfl⟩
theorem e_X10_countEasy_10 : kk_d cX10_countEasy 10 .isub 1 11 := ⟨by decide +kernel, rfl⟩
theorem e_X10_countEasy_11 : kk_d cX10_countEasy 11 (.istore_n 1) 1 12 := ⟨by decide +kernel, rfl⟩
theorem e_X10_countEasy_12 : kk_d cX10_countEasy 12 (.iconst 0) 1 13 := ⟨by decide +kernel, rfl⟩
theorem e_X10_countEasy_13 : kk_d cX10_countEasy 13 (.istore_n 2) 1 14 := ⟨by decide +kernel, rfl⟩
theorem e_X10_countEasy_14 : kk_d cX10_countEasy 14 (.iconst 0) 1 15 := ⟨by decide +kernel, rfl⟩
theorem e_X10_countEasy_15 : kk_d cX10_countEasy 15 (.istore_n 3) 1 16 := ⟨by decide +kernel, rfl⟩
theorem e_X10_countEasy_16 : kk_d cX10_countEasy 16 (.iload_n 3) 1 17 := ⟨by decide +kernel, rfl⟩
theorem e_X10_countEasy_17 : kk_d cX10_countEasy 17 (.aload_n 0) 1 18 := ⟨by decide +kernel, rfl⟩
theorem e_X10_countEasy_18 : kk_d cX10_countEasy 18 (.getfield 10) 3 21 := ⟨by decide +kernel, rfl⟩
theorem e_X10_countEasy_21 : kk_d cX10_countEasy 21 (.getfield 112) 3 24 := ⟨by decide +kernel, rfl⟩
theorem e_X10_countEasy_24 : kk_dj cX10_countEasy 24 (.if_icmp .ge 38) 3 (38) 27 62 := ⟨by decide +kernel, rfl, by decide⟩
theorem e_X10_countEasy_62 : kk_d cX10_countEasy 62 (.iload_n 2) 1 63 := ⟨by decide +kernel, rfl⟩
theorem e_X10_countEasy_63 : kk_d cX10_countEasy 63 .ireturn 1 64 := ⟨by decide +kernel, rfl⟩
theorem e_X10_countEasy_27 : kk_d cX10_countEasy 27 (.aload_n 0) 1 28 := ⟨by decide +kernel, rfl⟩
theorem e_X10_countEasy_28 : kk_d cX10_countEasy 28 (.getfield 21) 3 31 := ⟨by decide +kernel, rfl⟩
theorem e_X10_countEasy_31 : kk_d cX10_countEasy 31 (.getfield 137) 3 34 := ⟨by decide +kernel, rfl⟩
theorem e_X10_countEasy_34 : kk_d cX10_countEasy 34 (.iload_n 3) 1 35 := ⟨by decide +kernel, rfl⟩
theorem e_X10_countEasy_35 : kk_d cX10_countEasy 35 .iaload 1 36 := ⟨by decide +kernel, rfl⟩
theorem e_X10_countEasy_36 : kk_d cX10_countEasy 36 (.iconst (-1)) 1 37 := ⟨by decide +kernel, rfl⟩
theorem e_X10_countEasy_37 : kk_dj cX10_countEasy 37 (.if_icmp .ne 19) 3 (19) 40 56 := ⟨by decide +kernel, rfl, by decide⟩
theorem e_X10_countEasy_56 : kk_d cX10_countEasy 56 (.iinc 3 1) 3 59 := ⟨by decide +kernel, rfl⟩
theorem e_X10_countEasy_59 : kk_dj cX10_countEasy 59 (.goto (-43)) 3 (-43) 62 16 := ⟨by decide +kernel, rfl, by decide⟩
theorem e_X10_countEasy_40 : kk_d cX10_countEasy 40 (.aload_n 0) 1 41 := ⟨by decide +kernel, rfl⟩
theorem e_X10_countEasy_41 : kk_d cX10_countEasy 41 (.getfield 21) 3 44 := ⟨by decide +kernel, rfl⟩
theorem e_X10_countEasy_44 : kk_d cX10_countEasy 44 (.iload_n 3) 1 45 := ⟨by decide +kernel, rfl⟩
theorem e_X10_countEasy_45 : kk_d cX10_countEasy 45 (.invokevirtual 130) 3 48 := ⟨by decide +kernel, rfl⟩
theorem e_X10_countEasy_48 : kk_d cX10_countEasy 48 (.iload_n 1) 1 49 := ⟨by decide +kernel, rfl⟩
theorem e_X10_countEasy_49 : kk_d cX10_countEasy 49 .iand 1 50 := ⟨by decide +kernel, rfl⟩
theorem e_X10_countEasy_50 : kk_dj cX10_countEasy 50 (.ifCond .eq 6) 3 (6) 53 56 := ⟨by decide +kernel, rfl, by decide⟩
theorem e_X10_countEasy_53 : kk_d cX10_countEasy 53 (.iinc 2 1) 3 56 := ⟨by decide +kernel, rfl⟩
set_option maxRecDepth 4000 in
theorem s_X10_countEasy (Z : kk_Z) (σ : kk_St) (Q : Int32 → Prop) (h : f_X10_countEasy σ Q) : kk_M Z sh_C yX10_countEasy cX10_countEasy 4 (some .int) (kk_R 5) [.ref (Z.2.1 0)] σ (kk_Qi Z sh_C (fun r σ' => σ' = σ ∧ Q r)) := by
  unfold f_X10_countEasy at h
  refine kk_met (own := RX10) (by decide) rfl (Nat.le_of_ble_eq_true rfl) rfl ?_
  refine kk_iconst ic_1 e_X10_countEasy_0 ?_
  refine kk_aload_n 0 rfl e_X10_countEasy_1 ?_
  refine kk_getr e_X10_countEasy_2 fl_X10_10 rfl rfl ?_
  refine kk_geti e_X10_countEasy_5 fl_X10_266 rfl rfl ?_
  refine kk_ishl e_X10_countEasy_8 ?_
  refine kk_iconst ic_1 e_X10_countEasy_9 ?_
  refine kk_isub e_X10_countEasy_10 ?_
  refine kk_topi (fun v1_1 ev1_1 => ?_)
  replace h := h v1_1 ev1_1
  refine kk_istore_n (lv' := [(1, .int v1_1), (0, .ref (Z.2.1 0))]) e_X10_countEasy_11 rfl (by decide) rfl ?_
  refine kk_iconst ic_0 e_X10_countEasy_12 ?_
  refine kk_istore_n (lv' := [(2, .int (0 : Int32)), (1, .int v1_1), (0, .ref (Z.2.1 0))]) e_X10_countEasy_13 rfl (by decide) rfl ?_
  refine kk_iconst ic_0 e_X10_countEasy_14 ?_
  refine kk_istore_n (lv' := [(3, .int (0 : Int32)), (2, .int (0 : Int32)), (1, .int v1_1), (0, .ref (Z.2.1 0))]) e_X10_countEasy_15 rfl (by decide) rfl ?_
  refine kk_sub [3, 2, 1, 0] rfl ?_
  refine kk_lpW2 (P := fun (v2_2 : Int32) (v3_3 : Int32) => KK Z sh_C RX10 cX10_countEasy 4 (some .int) (kk_R 5) (kk_Qi Z sh_C (fun r σ' => σ' = σ ∧ Q r)) 16 [(0, .ref (Z.2.1 0)), (1, .int v1_1), (2, .int v2_2), (3, .int v3_3)] [] σ) ?_ h
  intro rec_4 hrec_4 v2_2 v3_3 h
  refine kk_iload_n 3 rfl e_X10_countEasy_16 ?_
  refine kk_aload_n 0 rfl e_X10_countEasy_17 ?_
  refine kk_getr e_X10_countEasy_18 fl_X10_10 rfl rfl ?_
  refine kk_geti e_X10_countEasy_21 fl_X10_112 rfl rfl ?_
  refine kk_icmp_ge e_X10_countEasy_24 (fun c_10 => ?_) (fun c_10 => ?_)
  · replace h := h.1 c_10
    refine kk_iload_n 2 rfl e_X10_countEasy_62 ?_
    exact kk_iret e_X10_countEasy_63 ⟨rfl, h⟩
  · replace h := h.2 c_10
    refine kk_aload_n 0 rfl e_X10_countEasy_27 ?_
    refine kk_getr e_X10_countEasy_28 fl_X10_21 rfl rfl ?_
    refine kk_getr e_X10_countEasy_31 fl_X10_137 rfl rfl ?_
    refine kk_iload_n 3 rfl e_X10_countEasy_34 ?_
    refine kk_iald e_X10_countEasy_35 rfl h.1 ?_
    replace h := h.2
    refine kk_iconst ic_m1 e_X10_countEasy_36 ?_
    refine kk_jW1 (P := fun (v2_5 : Int32) => KK Z sh_C RX10 cX10_countEasy 4 (some .int) (kk_R 5) (kk_Qi Z sh_C (fun r σ' => σ' = σ ∧ Q r)) 56 [(0, .ref (Z.2.1 0)), (1, .int v1_1), (2, .int v2_5), (3, .int v3_3)] [] σ) h ?_ ?_
    · intro v2_5 h
      refine kk_iinc (lv' := [(3, .int (v3_3 + (1 : Int32))), (0, .ref (Z.2.1 0)), (1, .int v1_1), (2, .int v2_5)]) e_X10_countEasy_56 (j := 3) rfl (ii_1 v3_3) (by decide) rfl ?_
      refine kk_goto e_X10_countEasy_59 ?_
      exact kk_sub [1, 2, 3, 0] rfl (hrec_4 v2_5 (v3_3 + (1 : Int32)) h)
    · intro J_6 hJ_6 h
      refine kk_icmp_ne e_X10_countEasy_37 (fun c_9 => ?_) (fun c_9 => ?_)
      · replace h := h.1 c_9
        exact kk_sub [0, 1, 2, 3] rfl (hJ_6 v2_2 h)
      · replace h := h.2 c_9
        refine kk_aload_n 0 rfl e_X10_countEasy_40 ?_
        refine kk_getr e_X10_countEasy_41 fl_X10_21 rfl rfl ?_
        refine kk_iload_n 3 rfl e_X10_countEasy_44 ?_
        refine kk_callVip (As := [.int v3_3]) (rest := []) e_X10_countEasy_45 ml_X10_130 ⟨_, _, _, _, rfl, rfl⟩ rfl (kk_fitR (by decide) (by decide)) (Nat.le_of_ble_eq_true rfl) rfl (s_X3_freeAtBoth Z v3_3 σ _ h) (fun r_7 h => ?_)
        refine kk_iload_n 1 rfl e_X10_countEasy_48 ?_
        refine kk_iand e_X10_countEasy_49 ?_
        refine kk_if_eq e_X10_countEasy_50 (fun c_8 => ?_) (fun c_8 => ?_)
        · replace h := h.1 c_8
          exact kk_sub [0, 1, 2, 3] rfl (hJ_6 v2_2 h)
        · replace h := h.2 c_8
          refine kk_iinc (lv' := [(2, .int (v2_2 + (1 : Int32))), (0, .ref (Z.2.1 0)), (1, .int v1_1), (3, .int v3_3)]) e_X10_countEasy_53 (j := 2) rfl (ii_1 v2_2) (by decide) rfl ?_
          exact kk_sub [1, 2, 0, 3] rfl (hJ_6 (v2_2 + (1 : Int32)) h)
theorem e_X6_allLines_0 : kk_d cX6_allLines 0 (.iconst 1) 1 1 := ⟨by decide +kernel, rfl⟩
theorem e_X6_allLines_1 : kk_d cX6_allLines 1 (.aload_n 0) 1 2 := ⟨by decide +kernel, rfl⟩
theorem e_X6_allLines_2 : kk_d cX6_allLines 2 (.getfield 31) 3 5 := ⟨by decide +kernel, rfl⟩
theorem e_X6_allLines_5 : kk_d cX6_allLines 5 .ishl 1 6 := ⟨by decide +kernel, rfl⟩
theorem e_X6_allLines_6 : kk_d cX6_allLines 6 (.iconst 1) 1 7 := ⟨by decide +kernel, rfl⟩
theorem e_X6_allLines_7 : kk_d cX6_allLines 7 .isub 1 8 := ⟨by decide +kernel, rfl⟩
theorem e_X6_allLines_8 : kk_d cX6_allLines 8 .ireturn 1 9 := ⟨by decide +kernel, rfl⟩
set_option maxRecDepth 4000 in
theorem s_X6_allLines (Z : kk_Z) (σ : kk_St) (Q : Int32 → Prop) (h : f_X6_allLines σ Q) : kk_M Z sh_C yX6_allLines cX6_allLines 1 (some .int) (kk_R 2) [.ref (Z.2.1 1)] σ (kk_Qi Z sh_C (fun r σ' => σ' = σ ∧ Q r)) := by
  unfold f_X6_allLines at h
  refine kk_met (own := RX6) (by decide) rfl (Nat.le_of_ble_eq_true rfl) rfl ?_
  refine kk_iconst ic_1 e_X6_allLines_0 ?_
  refine kk_aload_n 0 rfl e_X6_allLines_1 ?_
  refine kk_geti e_X6_allLines_2 fl_X6_31 rfl rfl ?_
  refine kk_ishl e_X6_allLines_5 ?_
  refine kk_iconst ic_1 e_X6_allLines_6 ?_
  refine kk_isub e_X6_allLines_7 ?_
  exact kk_iret e_X6_allLines_8 ⟨rfl, h⟩
theorem e_X3_bareLines_0 : kk_d cX3_bareLines 0 (.aload_n 0) 1 1 := ⟨by decide +kernel, rfl⟩
theorem e_X3_bareLines_1 : kk_d cX3_bareLines 1 (.getfield 18) 3 4 := ⟨by decide +kernel, rfl⟩
theorem e_X3_bareLines_4 : kk_d cX3_bareLines 4 (.invokevirtual 42) 3 7 := ⟨by decide +kernel, rfl⟩
theorem e_X3_bareLines_7 : kk_d cX3_bareLines 7 (.istore_n 1) 1 8 := ⟨by decide +kernel, rfl⟩
theorem e_X3_bareLines_8 : kk_d cX3_bareLines 8 (.iconst 0) 1 9 := ⟨by decide +kernel, rfl⟩
theorem e_X3_bareLines_9 : kk_d cX3_bareLines 9 (.istore_n 2) 1 10 := ⟨by decide +kernel, rfl⟩
theorem e_X3_bareLines_10 : kk_d cX3_bareLines 10 (.iload_n 2) 1 11 := ⟨by decide +kernel, rfl⟩
theorem e_X3_bareLines_11 : kk_d cX3_bareLines 11 (.bipush 9) 2 13 := ⟨by decide +kernel, rfl⟩
theorem e_X3_bareLines_13 : kk_dj cX3_bareLines 13 (.if_icmp .ge 20) 3 (20) 16 33 := ⟨by decide +kernel, rfl, by decide⟩
theorem e_X3_bareLines_33 : kk_d cX3_bareLines 33 (.iload_n 1) 1 34 := ⟨by decide +kernel, rfl⟩
theorem e_X3_bareLines_34 : kk_d cX3_bareLines 34 .ireturn 1 35 := ⟨by decide +kernel, rfl⟩
theorem e_X3_bareLines_16 : kk_d cX3_bareLines 16 (.iload_n 1) 1 17 := ⟨by decide +kernel, rfl⟩
theorem e_X3_bareLines_17 : kk_d cX3_bareLines 17 (.aload_n 0) 1 18 := ⟨by decide +kernel, rfl⟩
theorem e_X3_bareLines_18 : kk_d cX3_bareLines 18 (.getfield 15) 3 21 := ⟨by decide +kernel, rfl⟩
theorem e_X3_bareLines_21 : kk_d cX3_bareLines 21 (.iload_n 2) 1 22 := ⟨by decide +kernel, rfl⟩
theorem e_X3_bareLines_22 : kk_d cX3_bareLines 22 .iaload 1 23 := ⟨by decide +kernel, rfl⟩
theorem e_X3_bareLines_23 : kk_d cX3_bareLines 23 (.iconst (-1)) 1 24 := ⟨by decide +kernel, rfl⟩
theorem e_X3_bareLines_24 : kk_d cX3_bareLines 24 .ixor 1 25 := ⟨by decide +kernel, rfl⟩
theorem e_X3_bareLines_25 : kk_d cX3_bareLines 25 .iand 1 26 := ⟨by decide +kernel, rfl⟩
theorem e_X3_bareLines_26 : kk_d cX3_bareLines 26 (.istore_n 1) 1 27 := ⟨by decide +kernel, rfl⟩
theorem e_X3_bareLines_27 : kk_d cX3_bareLines 27 (.iinc 2 1) 3 30 := ⟨by decide +kernel, rfl⟩
theorem e_X3_bareLines_30 : kk_dj cX3_bareLines 30 (.goto (-20)) 3 (-20) 33 10 := ⟨by decide +kernel, rfl, by decide⟩
set_option maxRecDepth 4000 in
theorem s_X3_bareLines (Z : kk_Z) (σ : kk_St) (Q : Int32 → Prop) (h : f_X3_bareLines σ Q) : kk_M Z sh_C yX3_bareLines cX3_bareLines 3 (some .int) (kk_R 3) [.ref (Z.2.1 2)] σ (kk_Qi Z sh_C (fun r σ' => σ' = σ ∧ Q r)) := by
  unfold f_X3_bareLines at h
  refine kk_met (own := RX3) (by decide) rfl (Nat.le_of_ble_eq_true rfl) rfl ?_
  refine kk_aload_n 0 rfl e_X3_bareLines_0 ?_
  refine kk_getr e_X3_bareLines_1 fl_X3_18 rfl rfl ?_
  refine kk_callVip (As := []) (rest := []) e_X3_bareLines_4 ml_X3_42 ⟨_, _, _, _, rfl, rfl⟩ rfl (kk_fitR (by decide) (by decide)) (Nat.le_of_ble_eq_true rfl) rfl (s_X6_allLines Z σ _ h) (fun r_1 h => ?_)
  refine kk_istore_n (lv' := [(1, .int r_1), (0, .ref (Z.2.1 2))]) e_X3_bareLines_7 rfl (by decide) rfl ?_
  refine kk_iconst ic_0 e_X3_bareLines_8 ?_
  refine kk_istore_n (lv' := [(2, .int (0 : Int32)), (1, .int r_1), (0, .ref (Z.2.1 2))]) e_X3_bareLines_9 rfl (by decide) rfl ?_
  refine kk_sub [2, 1, 0] rfl ?_
  refine kk_lpW2 (P := fun (v1_2 : Int32) (v2_3 : Int32) => KK Z sh_C RX3 cX3_bareLines 3 (some .int) (kk_R 3) (kk_Qi Z sh_C (fun r σ' => σ' = σ ∧ Q r)) 10 [(0, .ref (Z.2.1 2)), (1, .int v1_2), (2, .int v2_3)] [] σ) ?_ h
  intro rec_4 hrec_4 v1_2 v2_3 h
  refine kk_iload_n 2 rfl e_X3_bareLines_10 ?_
  refine kk_bipush bp_9 e_X3_bareLines_11 ?_
  refine kk_icmp_ge e_X3_bareLines_13 (fun c_6 => ?_) (fun c_6 => ?_)
  · replace h := h.1 c_6
    refine kk_iload_n 1 rfl e_X3_bareLines_33 ?_
    exact kk_iret e_X3_bareLines_34 ⟨rfl, h⟩
  · replace h := h.2 c_6
    refine kk_iload_n 1 rfl e_X3_bareLines_16 ?_
    refine kk_aload_n 0 rfl e_X3_bareLines_17 ?_
    refine kk_getr e_X3_bareLines_18 fl_X3_15 rfl rfl ?_
    refine kk_iload_n 2 rfl e_X3_bareLines_21 ?_
    refine kk_iald e_X3_bareLines_22 rfl h.1 ?_
    replace h := h.2
    refine kk_iconst ic_m1 e_X3_bareLines_23 ?_
    refine kk_ixor e_X3_bareLines_24 ?_
    refine kk_iand e_X3_bareLines_25 ?_
    refine kk_topi (fun v1_5 ev1_5 => ?_)
    replace h := h v1_5 ev1_5
    refine kk_istore_n (lv' := [(1, .int v1_5), (0, .ref (Z.2.1 2)), (2, .int v2_3)]) e_X3_bareLines_26 rfl (by decide) rfl ?_
    refine kk_iinc (lv' := [(2, .int (v2_3 + (1 : Int32))), (1, .int v1_5), (0, .ref (Z.2.1 2))]) e_X3_bareLines_27 (j := 2) rfl (ii_1 v2_3) (by decide) rfl ?_
    refine kk_goto e_X3_bareLines_30 ?_
    exact kk_sub [2, 1, 0] rfl (hrec_4 v1_5 (v2_3 + (1 : Int32)) h)
theorem e_X3_unevenness_0 : kk_d cX3_unevenness 0 (.iconst 0) 1 1 := ⟨by decide +kernel, rfl⟩
theorem e_X3_unevenness_1 : kk_d cX3_unevenness 1 (.istore_n 1) 1 2 := ⟨by decide +kernel, rfl⟩
theorem e_X3_unevenness_2 : kk_d cX3_unevenness 2 (.bipush 20) 2 4 := ⟨by decide +kernel, rfl⟩
theorem e_X3_unevenness_4 : kk_d cX3_unevenness 4 (.istore_n 2) 1 5 := ⟨by decide +kernel, rfl⟩
theorem e_X3_unevenness_5 : kk_d cX3_unevenness 5 (.iconst 0) 1 6 := ⟨by decide +kernel, rfl⟩
theorem e_X3_unevenness_6 : kk_d cX3_unevenness 6 (.istore_n 3) 1 7 := ⟨by decide +kernel, rfl⟩
theorem e_X3_unevenness_7 : kk_d cX3_unevenness 7 (.iload_n 3) 1 8 := ⟨by decide +kernel, rfl⟩
theorem e_X3_unevenness_8 : kk_d cX3_unevenness 8 (.bipush 9) 2 10 := ⟨by decide +kernel, rfl⟩
theorem e_X3_unevenness_10 : kk_dj cX3_unevenness 10 (.if_icmp .ge 46) 3 (46) 13 56 := ⟨by decide +kernel, rfl, by decide⟩
theorem e_X3_unevenness_56 : kk_d cX3_unevenness 56 (.iconst 0) 1 57 := ⟨by decide +kernel, rfl⟩
theorem e_X3_unevenness_57 : kk_d cX3_unevenness 57 (.iload_n 1) 1 58 := ⟨by decide +kernel, rfl⟩
theorem e_X3_unevenness_58 : kk_d cX3_unevenness 58 (.iload_n 2) 1 59 := ⟨by decide +kernel, rfl⟩
theorem e_X3_unevenness_59 : kk_d cX3_unevenness 59 .isub 1 60 := ⟨by decide +kernel, rfl⟩
theorem e_X3_unevenness_60 : kk_d cX3_unevenness 60 (.invokestatic 51) 3 63 := ⟨by decide +kernel, rfl⟩
theorem e_X3_unevenness_63 : kk_d cX3_unevenness 63 .ireturn 1 64 := ⟨by decide +kernel, rfl⟩
theorem e_X3_unevenness_13 : kk_d cX3_unevenness 13 (.aload_n 0) 1 14 := ⟨by decide +kernel, rfl⟩
theorem e_X3_unevenness_14 : kk_d cX3_unevenness 14 (.getfield 15) 3 17 := ⟨by decide +kernel, rfl⟩
theorem e_X3_unevenness_17 : kk_d cX3_unevenness 17 (.iload_n 3) 1 18 := ⟨by decide +kernel, rfl⟩
theorem e_X3_unevenness_18 : kk_d cX3_unevenness 18 .iaload 1 19 := ⟨by decide +kernel, rfl⟩
theorem e_X3_unevenness_19 : kk_dj cX3_unevenness 19 (.ifCond .eq 31) 3 (31) 22 50 := ⟨by decide +kernel, rfl, by decide⟩
theorem e_X3_unevenness_50 : kk_d cX3_unevenness 50 (.iinc 3 1) 3 53 := ⟨by decide +kernel, rfl⟩
theorem e_X3_unevenness_53 : kk_dj cX3_unevenness 53 (.goto (-46)) 3 (-46) 56 7 := ⟨by decide +kernel, rfl, by decide⟩
theorem e_X3_unevenness_22 : kk_d cX3_unevenness 22 (.iload_n 1) 1 23 := ⟨by decide +kernel, rfl⟩
theorem e_X3_unevenness_23 : kk_d cX3_unevenness 23 (.aload_n 0) 1 24 := ⟨by decide +kernel, rfl⟩
theorem e_X3_unevenness_24 : kk_d cX3_unevenness 24 (.getfield 15) 3 27 := ⟨by decide +kernel, rfl⟩
theorem e_X3_unevenness_27 : kk_d cX3_unevenness 27 (.iload_n 3) 1 28 := ⟨by decide +kernel, rfl⟩
theorem e_X3_unevenness_28 : kk_d cX3_unevenness 28 .iaload 1 29 := ⟨by decide +kernel, rfl⟩
theorem e_X3_unevenness_29 : kk_d cX3_unevenness 29 (.invokestatic 45) 3 32 := ⟨by decide +kernel, rfl⟩
theorem e_X3_unevenness_32 : kk_d cX3_unevenness 32 (.invokestatic 51) 3 35 := ⟨by decide +kernel, rfl⟩
theorem e_X3_unevenness_35 : kk_d cX3_unevenness 35 (.istore_n 1) 1 36 := ⟨by decide +kernel, rfl⟩
theorem e_X3_unevenness_36 : kk_d cX3_unevenness 36 (.iload_n 2) 1 37 := ⟨by decide +kernel, rfl⟩
theorem e_X3_unevenness_37 : kk_d cX3_unevenness 37 (.aload_n 0) 1 38 := ⟨by decide +kernel, rfl⟩
theorem e_X3_unevenness_38 : kk_d cX3_unevenness 38 (.getfield 15) 3 41 := ⟨by decide +kernel, rfl⟩
theorem e_X3_unevenness_41 : kk_d cX3_unevenness 41 (.iload_n 3) 1 42 := ⟨by decide +kernel, rfl⟩
theorem e_X3_unevenness_42 : kk_d cX3_unevenness 42 .iaload 1 43 := ⟨by decide +kernel, rfl⟩
theorem e_X3_unevenness_43 : kk_d cX3_unevenness 43 (.invokestatic 45) 3 46 := ⟨by decide +kernel, rfl⟩
theorem e_X3_unevenness_46 : kk_d cX3_unevenness 46 (.invokestatic 57) 3 49 := ⟨by decide +kernel, rfl⟩
theorem e_X3_unevenness_49 : kk_d cX3_unevenness 49 (.istore_n 2) 1 50 := ⟨by decide +kernel, rfl⟩
set_option maxRecDepth 4000 in
theorem s_X3_unevenness (Z : kk_Z) (σ : kk_St) (Q : Int32 → Prop) (h : f_X3_unevenness σ Q) : kk_M Z sh_C yX3_unevenness cX3_unevenness 4 (some .int) (kk_R 3) [.ref (Z.2.1 2)] σ (kk_Qi Z sh_C (fun r σ' => σ' = σ ∧ Q r)) := by
  unfold f_X3_unevenness at h
  refine kk_met (own := RX3) (by decide) rfl (Nat.le_of_ble_eq_true rfl) rfl ?_
  refine kk_iconst ic_0 e_X3_unevenness_0 ?_
  refine kk_istore_n (lv' := [(1, .int (0 : Int32)), (0, .ref (Z.2.1 2))]) e_X3_unevenness_1 rfl (by decide) rfl ?_
  refine kk_bipush bp_20 e_X3_unevenness_2 ?_
  refine kk_istore_n (lv' := [(2, .int (20 : Int32)), (1, .int (0 : Int32)), (0, .ref (Z.2.1 2))]) e_X3_unevenness_4 rfl (by decide) rfl ?_
  refine kk_iconst ic_0 e_X3_unevenness_5 ?_
  refine kk_istore_n (lv' := [(3, .int (0 : Int32)), (2, .int (20 : Int32)), (1, .int (0 : Int32)), (0, .ref (Z.2.1 2))]) e_X3_unevenness_6 rfl (by decide) rfl ?_
  refine kk_sub [3, 2, 1, 0] rfl ?_
  refine kk_lpW3 (P := fun (v1_1 : Int32) (v2_2 : Int32) (v3_3 : Int32) => KK Z sh_C RX3 cX3_unevenness 4 (some .int) (kk_R 3) (kk_Qi Z sh_C (fun r σ' => σ' = σ ∧ Q r)) 7 [(0, .ref (Z.2.1 2)), (1, .int v1_1), (2, .int v2_2), (3, .int v3_3)] [] σ) ?_ h
  intro rec_4 hrec_4 v1_1 v2_2 v3_3 h
  refine kk_iload_n 3 rfl e_X3_unevenness_7 ?_
  refine kk_bipush bp_9 e_X3_unevenness_8 ?_
  refine kk_icmp_ge e_X3_unevenness_10 (fun c_11 => ?_) (fun c_11 => ?_)
  · replace h := h.1 c_11
    refine kk_iconst ic_0 e_X3_unevenness_56 ?_
    refine kk_iload_n 1 rfl e_X3_unevenness_57 ?_
    refine kk_iload_n 2 rfl e_X3_unevenness_58 ?_
    refine kk_isub e_X3_unevenness_59 ?_
    refine kk_mmax e_X3_unevenness_60 mx_X3_51 mx_max_static mx_init mx_max_code ⟨Nat.le_of_ble_eq_true rfl, Nat.le_of_ble_eq_true rfl⟩ ?_
    exact kk_iret e_X3_unevenness_63 ⟨rfl, h⟩
  · replace h := h.2 c_11
    refine kk_aload_n 0 rfl e_X3_unevenness_13 ?_
    refine kk_getr e_X3_unevenness_14 fl_X3_15 rfl rfl ?_
    refine kk_iload_n 3 rfl e_X3_unevenness_17 ?_
    refine kk_iald e_X3_unevenness_18 rfl h.1 ?_
    replace h := h.2
    refine kk_jW2 (P := fun (v1_5 : Int32) (v2_6 : Int32) => KK Z sh_C RX3 cX3_unevenness 4 (some .int) (kk_R 3) (kk_Qi Z sh_C (fun r σ' => σ' = σ ∧ Q r)) 50 [(0, .ref (Z.2.1 2)), (1, .int v1_5), (2, .int v2_6), (3, .int v3_3)] [] σ) h ?_ ?_
    · intro v1_5 v2_6 h
      refine kk_iinc (lv' := [(3, .int (v3_3 + (1 : Int32))), (0, .ref (Z.2.1 2)), (1, .int v1_5), (2, .int v2_6)]) e_X3_unevenness_50 (j := 3) rfl (ii_1 v3_3) (by decide) rfl ?_
      refine kk_goto e_X3_unevenness_53 ?_
      exact kk_sub [1, 2, 3, 0] rfl (hrec_4 v1_5 v2_6 (v3_3 + (1 : Int32)) h)
    · intro J_7 hJ_7 h
      refine kk_if_eq e_X3_unevenness_19 (fun c_10 => ?_) (fun c_10 => ?_)
      · replace h := h.1 c_10
        exact kk_sub [0, 1, 2, 3] rfl (hJ_7 v1_1 v2_2 h)
      · replace h := h.2 c_10
        refine kk_iload_n 1 rfl e_X3_unevenness_22 ?_
        refine kk_aload_n 0 rfl e_X3_unevenness_23 ?_
        refine kk_getr e_X3_unevenness_24 fl_X3_15 rfl rfl ?_
        refine kk_iload_n 3 rfl e_X3_unevenness_27 ?_
        refine kk_iald e_X3_unevenness_28 rfl h.1 ?_
        replace h := h.2
        refine kk_callSip (As := [.int (kk_rd σ 17 v3_3)]) (rest := [.int v1_1]) e_X3_unevenness_29 ml_X3_45 rfl (kk_fitR (by decide) (by decide)) (Nat.le_of_ble_eq_true rfl) rfl (s_J6_bitCount_0f7a4 Z (kk_rd σ 17 v3_3) σ _ h) (fun r_8 h => ?_)
        refine kk_mmax e_X3_unevenness_32 mx_X3_51 mx_max_static mx_init mx_max_code ⟨Nat.le_of_ble_eq_true rfl, Nat.le_of_ble_eq_true rfl⟩ ?_
        refine kk_istore_n (lv' := [(1, .int (kk_max v1_1 r_8)), (0, .ref (Z.2.1 2)), (2, .int v2_2), (3, .int v3_3)]) e_X3_unevenness_35 rfl (by decide) rfl ?_
        refine kk_iload_n 2 rfl e_X3_unevenness_36 ?_
        refine kk_aload_n 1 rfl e_X3_unevenness_37 ?_
        refine kk_getr e_X3_unevenness_38 fl_X3_15 rfl rfl ?_
        refine kk_iload_n 3 rfl e_X3_unevenness_41 ?_
        refine kk_iald e_X3_unevenness_42 rfl h.1 ?_
        replace h := h.2
        refine kk_callSip (As := [.int (kk_rd σ 17 v3_3)]) (rest := [.int v2_2]) e_X3_unevenness_43 ml_X3_45 rfl (kk_fitR (by decide) (by decide)) (Nat.le_of_ble_eq_true rfl) rfl (s_J6_bitCount_0f7a4 Z (kk_rd σ 17 v3_3) σ _ h) (fun r_9 h => ?_)
        refine kk_mmin e_X3_unevenness_46 mx_X3_57 mx_min_static mx_init mx_min_code ⟨Nat.le_of_ble_eq_true rfl, Nat.le_of_ble_eq_true rfl⟩ ?_
        refine kk_istore_n (lv' := [(2, .int (kk_min v2_2 r_9)), (1, .int (kk_max v1_1 r_8)), (0, .ref (Z.2.1 2)), (3, .int v3_3)]) e_X3_unevenness_49 rfl (by decide) rfl ?_
        exact kk_sub [2, 1, 0, 3] rfl (hJ_7 (kk_max v1_1 r_8) (kk_min v2_2 r_9) h)
theorem e_X3_usedColours_0 : kk_d cX3_usedColours 0 (.iconst 0) 1 1 := ⟨by decide +kernel, rfl⟩
theorem e_X3_usedColours_1 : kk_d cX3_usedColours 1 (.istore_n 1) 1 2 := ⟨by decide +kernel, rfl⟩
theorem e_X3_usedColours_2 : kk_d cX3_usedColours 2 (.iconst 0) 1 3 := ⟨by decide +kernel, rfl⟩
theorem e_X3_usedColours_3 : kk_d cX3_usedColours 3 (.istore_n 2) 1 4 := ⟨by decide +kernel, rfl⟩
theorem e_X3_usedColours_4 : kk_d cX3_usedColours 4 (.iload_n 2) 1 5 := ⟨by decide +kernel, rfl⟩
theorem e_X3_usedColours_5 : kk_d cX3_usedColours 5 (.bipush 9) 2 7 := ⟨by decide +kernel, rfl⟩
theorem e_X3_usedColours_7 : kk_dj cX3_usedColours 7 (.if_icmp .ge 21) 3 (21) 10 28 := ⟨by decide +kernel, rfl, by decide⟩
theorem e_X3_usedColours_28 : kk_d cX3_usedColours 28 (.iload_n 1) 1 29 := ⟨by decide +kernel, rfl⟩
theorem e_X3_usedColours_29 : kk_d cX3_usedColours 29 .ireturn 1 30 := ⟨by decide +kernel, rfl⟩
theorem e_X3_usedColours_10 : kk_d cX3_usedColours 10 (.aload_n 0) 1 11 := ⟨by decide +kernel, rfl⟩
theorem e_X3_usedColours_11 : kk_d cX3_usedColours 11 (.getfield 15) 3 14 := ⟨by decide +kernel, rfl⟩
theorem e_X3_usedColours_14 : kk_d cX3_usedColours 14 (.iload_n 2) 1 15 := ⟨by decide +kernel, rfl⟩
theorem e_X3_usedColours_15 : kk_d cX3_usedColours 15 .iaload 1 16 := ⟨by decide +kernel, rfl⟩
theorem e_X3_usedColours_16 : kk_dj cX3_usedColours 16 (.ifCond .eq 6) 3 (6) 19 22 := ⟨by decide +kernel, rfl, by decide⟩
theorem e_X3_usedColours_22 : kk_d cX3_usedColours 22 (.iinc 2 1) 3 25 := ⟨by decide +kernel, rfl⟩
theorem e_X3_usedColours_25 : kk_dj cX3_usedColours 25 (.goto (-21)) 3 (-21) 28 4 := ⟨by decide +kernel, rfl, by decide⟩
theorem e_X3_usedColours_19 : kk_d cX3_usedColours 19 (.iinc 1 1) 3 22 := ⟨by decide +kernel, rfl⟩
set_option maxRecDepth 4000 in
theorem s_X3_usedColours (Z : kk_Z) (σ : kk_St) (Q : Int32 → Prop) (h : f_X3_usedColours σ Q) : kk_M Z sh_C yX3_usedColours cX3_usedColours 3 (some .int) (kk_R 2) [.ref (Z.2.1 2)] σ (kk_Qi Z sh_C (fun r σ' => σ' = σ ∧ Q r)) := by
  unfold f_X3_usedColours at h
  refine kk_met (own := RX3) (by decide) rfl (Nat.le_of_ble_eq_true rfl) rfl ?_
  refine kk_iconst ic_0 e_X3_usedColours_0 ?_
  refine kk_istore_n (lv' := [(1, .int (0 : Int32)), (0, .ref (Z.2.1 2))]) e_X3_usedColours_1 rfl (by decide) rfl ?_
  refine kk_iconst ic_0 e_X3_usedColours_2 ?_
  refine kk_istore_n (lv' := [(2, .int (0 : Int32)), (1, .int (0 : Int32)), (0, .ref (Z.2.1 2))]) e_X3_usedColours_3 rfl (by decide) rfl ?_
  refine kk_sub [2, 1, 0] rfl ?_
  refine kk_lpW2 (P := fun (v1_1 : Int32) (v2_2 : Int32) => KK Z sh_C RX3 cX3_usedColours 3 (some .int) (kk_R 2) (kk_Qi Z sh_C (fun r σ' => σ' = σ ∧ Q r)) 4 [(0, .ref (Z.2.1 2)), (1, .int v1_1), (2, .int v2_2)] [] σ) ?_ h
  intro rec_3 hrec_3 v1_1 v2_2 h
  refine kk_iload_n 2 rfl e_X3_usedColours_4 ?_
  refine kk_bipush bp_9 e_X3_usedColours_5 ?_
  refine kk_icmp_ge e_X3_usedColours_7 (fun c_7 => ?_) (fun c_7 => ?_)
  · replace h := h.1 c_7
    refine kk_iload_n 1 rfl e_X3_usedColours_28 ?_
    exact kk_iret e_X3_usedColours_29 ⟨rfl, h⟩
  · replace h := h.2 c_7
    refine kk_aload_n 0 rfl e_X3_usedColours_10 ?_
    refine kk_getr e_X3_usedColours_11 fl_X3_15 rfl rfl ?_
    refine kk_iload_n 2 rfl e_X3_usedColours_14 ?_
    refine kk_iald e_X3_usedColours_15 rfl h.1 ?_
    replace h := h.2
    refine kk_jW1 (P := fun (v1_4 : Int32) => KK Z sh_C RX3 cX3_usedColours 3 (some .int) (kk_R 2) (kk_Qi Z sh_C (fun r σ' => σ' = σ ∧ Q r)) 22 [(0, .ref (Z.2.1 2)), (1, .int v1_4), (2, .int v2_2)] [] σ) h ?_ ?_
    · intro v1_4 h
      refine kk_iinc (lv' := [(2, .int (v2_2 + (1 : Int32))), (0, .ref (Z.2.1 2)), (1, .int v1_4)]) e_X3_usedColours_22 (j := 2) rfl (ii_1 v2_2) (by decide) rfl ?_
      refine kk_goto e_X3_usedColours_25 ?_
      exact kk_sub [1, 2, 0] rfl (hrec_3 v1_4 (v2_2 + (1 : Int32)) h)
    · intro J_5 hJ_5 h
      refine kk_if_eq e_X3_usedColours_16 (fun c_6 => ?_) (fun c_6 => ?_)
      · replace h := h.1 c_6
        exact kk_sub [0, 1, 2] rfl (hJ_5 v1_1 h)
      · replace h := h.2 c_6
        refine kk_iinc (lv' := [(1, .int (v1_1 + (1 : Int32))), (0, .ref (Z.2.1 2)), (2, .int v2_2)]) e_X3_usedColours_19 (j := 1) rfl (ii_1 v1_1) (by decide) rfl ?_
        exact kk_sub [1, 0, 2] rfl (hJ_5 (v1_1 + (1 : Int32)) h)
theorem e_X10_count_0 : kk_d cX10_count 0 (.iload_n 1) 1 1 := ⟨by decide +kernel, rfl⟩
theorem e_X10_count_1 : decode cX10_count 1 = .ok (.tableswitch 116 0 7 #[47, 55, 63, 71, 82, 90, 98, 111], 47) := by decide +kernel
theorem e_X10_count_48 : kk_d cX10_count 48 (.aload_n 0) 1 49 := ⟨by decide +kernel, rfl⟩
theorem e_X10_count_49 : kk_d cX10_count 49 (.getfield 10) 3 52 := ⟨by decide +kernel, rfl⟩
theorem e_X10_count_52 : kk_d cX10_count 52 (.getfield 335) 3 55 := ⟨by decide +kernel, rfl⟩
theorem e_X10_count_55 : kk_d cX10_count 55 .ireturn 1 56 := ⟨by decide +kernel, rfl⟩
theorem e_X10_count_56 : kk_d cX10_count 56 (.aload_n 0) 1 57 := ⟨by decide +kernel, rfl⟩
theorem e_X10_count_57 : kk_d cX10_count 57 (.getfield 10) 3 60 := ⟨by decide +kernel, rfl⟩
theorem e_X10_count_60 : kk_d cX10_count 60 (.getfield 112) 3 63 := ⟨by decide +kernel, rfl⟩
theorem e_X10_count_63 : kk_d cX10_count 63 .ireturn 1 64 := ⟨by decide +kernel, rfl⟩
theorem e_X10_count_64 : kk_d cX10_count 64 (.aload_n 0) 1 65 := ⟨by decide +kernel, rfl⟩
theorem e_X10_count_65 : kk_d cX10_count 65 (.getfield 10) 3 68 := ⟨by decide +kernel, rfl⟩
theorem e_X10_count_68 : kk_d cX10_count 68 (.getfield 266) 3 71 := ⟨by decide +kernel, rfl⟩
theorem e_X10_count_71 : kk_d cX10_count 71 .ireturn 1 72 := ⟨by decide +kernel, rfl⟩
theorem e_X10_count_72 : kk_d cX10_count 72 (.aload_n 0) 1 73 := ⟨by decide +kernel, rfl⟩
theorem e_X10_count_73 : kk_d cX10_count 73 (.getfield 21) 3 76 := ⟨by decide +kernel, rfl⟩
theorem e_X10_count_76 : kk_d cX10_count 76 (.invokevirtual 338) 3 79 := ⟨by decide +kernel, rfl⟩
theorem e_X10_count_79 : kk_d cX10_count 79 (.invokestatic 155) 3 82 := ⟨by decide +kernel, rfl⟩
theorem e_X10_count_82 : kk_d cX10_count 82 .ireturn 1 83 := ⟨by decide +kernel, rfl⟩
theorem e_X10_count_83 : kk_d cX10_count 83 (.aload_n 0) 1 84 := ⟨by decide +kernel, rfl⟩
theorem e_X10_count_84 : kk_d cX10_count 84 (.getfield 21) 3 87 := ⟨by decide +kernel, rfl⟩
theorem e_X10_count_87 : kk_d cX10_count 87 (.invokevirtual 341) 3 90 := ⟨by decide +kernel, rfl⟩
theorem e_X10_count_90 : kk_d cX10_count 90 .ireturn 1 91 := ⟨by decide +kernel, rfl⟩
theorem e_X10_count_91 : kk_d cX10_count 91 (.aload_n 0) 1 92 := ⟨by decide +kernel, rfl⟩
theorem e_X10_count_92 : kk_d cX10_count 92 (.getfield 21) 3 95 := ⟨by decide +kernel, rfl⟩
theorem e_X10_count_95 : kk_d cX10_count 95 (.invokevirtual 344) 3 98 := ⟨by decide +kernel, rfl⟩
theorem e_X10_count_98 : kk_d cX10_count 98 .ireturn 1 99 := ⟨by decide +kernel, rfl⟩
theorem e_X10_count_99 : kk_d cX10_count 99 (.aload_n 0) 1 100 := ⟨by decide +kernel, rfl⟩
theorem e_X10_count_100 : kk_d cX10_count 100 (.getfield 92) 3 103 := ⟨by decide +kernel, rfl⟩
theorem e_X10_count_103 : kk_dj cX10_count 103 (.ifCond .eq 7) 3 (7) 106 110 := ⟨by decide +kernel, rfl, by decide⟩
theorem e_X10_count_111 : kk_d cX10_count 111 .ireturn 1 112 := ⟨by decide +kernel, rfl⟩
theorem e_X10_count_110 : kk_d cX10_count 110 (.iconst 0) 1 111 := ⟨by decide +kernel, rfl⟩
theorem e_X10_count_106 : kk_d cX10_count 106 (.iconst 1) 1 107 := ⟨by decide +kernel, rfl⟩
theorem e_X10_count_107 : kk_dj cX10_count 107 (.goto 4) 3 (4) 110 111 := ⟨by decide +kernel, rfl, by decide⟩
theorem e_X10_count_112 : kk_d cX10_count 112 (.aload_n 0) 1 113 := ⟨by decide +kernel, rfl⟩
theorem e_X10_count_113 : kk_d cX10_count 113 (.invokevirtual 347) 3 116 := ⟨by decide +kernel, rfl⟩
theorem e_X10_count_116 : kk_d cX10_count 116 .ireturn 1 117 := ⟨by decide +kernel, rfl⟩
theorem e_X10_count_117 : kk_d cX10_count 117 (.iconst (-1)) 1 118 := ⟨by decide +kernel, rfl⟩
theorem e_X10_count_118 : kk_d cX10_count 118 .ireturn 1 119 := ⟨by decide +kernel, rfl⟩
set_option maxRecDepth 4000 in
theorem s_X10_count (Z : kk_Z) (v1 : Int32) (σ : kk_St) (Q : Int32 → Prop) (h : f_X10_count v1 σ Q) : kk_M Z sh_C yX10_count cX10_count 2 (some .int) (kk_R 6) [.ref (Z.2.1 0), .int v1] σ (kk_Qi Z sh_C (fun r σ' => σ' = σ ∧ Q r)) := by
  unfold f_X10_count at h
  refine kk_met (own := RX10) (by decide) rfl (Nat.le_of_ble_eq_true rfl) rfl ?_
  refine kk_iload_n 1 rfl e_X10_count_0 ?_
  rcases kk_swc v1 8 (by decide) with ⟨i, hi, hx⟩ | hx
  · rcases (show i = 0 ∨ i = 1 ∨ i = 2 ∨ i = 3 ∨ i = 4 ∨ i = 5 ∨ i = 6 ∨ i = 7 by omega) with rfl | rfl | rfl | rfl | rfl | rfl | rfl | rfl
    · replace h := h.1 hx
      refine kk_swIn (tgt := 48) e_X10_count_1 0 hx (by decide) (by decide) rfl (by decide) ?_
      refine kk_aload_n 0 rfl e_X10_count_48 ?_
      refine kk_getr e_X10_count_49 fl_X10_10 rfl rfl ?_
      refine kk_geti e_X10_count_52 fl_X10_335 rfl rfl ?_
      exact kk_iret e_X10_count_55 ⟨rfl, h⟩
    · replace h := h.2.1 hx
      refine kk_swIn (tgt := 56) e_X10_count_1 1 hx (by decide) (by decide) rfl (by decide) ?_
      refine kk_aload_n 0 rfl e_X10_count_56 ?_
      refine kk_getr e_X10_count_57 fl_X10_10 rfl rfl ?_
      refine kk_geti e_X10_count_60 fl_X10_112 rfl rfl ?_
      exact kk_iret e_X10_count_63 ⟨rfl, h⟩
    · replace h := h.2.2.1 hx
      refine kk_swIn (tgt := 64) e_X10_count_1 2 hx (by decide) (by decide) rfl (by decide) ?_
      refine kk_aload_n 0 rfl e_X10_count_64 ?_
      refine kk_getr e_X10_count_65 fl_X10_10 rfl rfl ?_
      refine kk_geti e_X10_count_68 fl_X10_266 rfl rfl ?_
      exact kk_iret e_X10_count_71 ⟨rfl, h⟩
    · replace h := h.2.2.2.1 hx
      refine kk_swIn (tgt := 72) e_X10_count_1 3 hx (by decide) (by decide) rfl (by decide) ?_
      refine kk_aload_n 0 rfl e_X10_count_72 ?_
      refine kk_getr e_X10_count_73 fl_X10_21 rfl rfl ?_
      refine kk_callVip (As := []) (rest := []) e_X10_count_76 ml_X10_338 ⟨_, _, _, _, rfl, rfl⟩ rfl (kk_fitR (by decide) (by decide)) (Nat.le_of_ble_eq_true rfl) rfl (s_X3_bareLines Z σ _ h) (fun r_1 h => ?_)
      refine kk_callSip (As := [.int r_1]) (rest := []) e_X10_count_79 ml_X10_155 rfl (kk_fitR (by decide) (by decide)) (Nat.le_of_ble_eq_true rfl) rfl (s_J6_bitCount_0f7a4 Z r_1 σ _ h) (fun r_2 h => ?_)
      exact kk_iret e_X10_count_82 ⟨rfl, h⟩
    · replace h := h.2.2.2.2.1 hx
      refine kk_swIn (tgt := 83) e_X10_count_1 4 hx (by decide) (by decide) rfl (by decide) ?_
      refine kk_aload_n 0 rfl e_X10_count_83 ?_
      refine kk_getr e_X10_count_84 fl_X10_21 rfl rfl ?_
      refine kk_callVip (As := []) (rest := []) e_X10_count_87 ml_X10_341 ⟨_, _, _, _, rfl, rfl⟩ rfl (kk_fitR (by decide) (by decide)) (Nat.le_of_ble_eq_true rfl) rfl (s_X3_usedColours Z σ _ h) (fun r_3 h => ?_)
      exact kk_iret e_X10_count_90 ⟨rfl, h⟩
    · replace h := h.2.2.2.2.2.1 hx
      refine kk_swIn (tgt := 91) e_X10_count_1 5 hx (by decide) (by decide) rfl (by decide) ?_
      refine kk_aload_n 0 rfl e_X10_count_91 ?_
      refine kk_getr e_X10_count_92 fl_X10_21 rfl rfl ?_
      refine kk_callVip (As := []) (rest := []) e_X10_count_95 ml_X10_344 ⟨_, _, _, _, rfl, rfl⟩ rfl (kk_fitR (by decide) (by decide)) (Nat.le_of_ble_eq_true rfl) rfl (s_X3_unevenness Z σ _ h) (fun r_4 h => ?_)
      exact kk_iret e_X10_count_98 ⟨rfl, h⟩
    · replace h := h.2.2.2.2.2.2.1 hx
      refine kk_swIn (tgt := 99) e_X10_count_1 6 hx (by decide) (by decide) rfl (by decide) ?_
      refine kk_aload_n 0 rfl e_X10_count_99 ?_
      refine kk_geti e_X10_count_100 fl_X10_92 rfl rfl ?_
      refine kk_jW1 (P := fun (t_5 : Int32) => KK Z sh_C RX10 cX10_count 2 (some .int) (kk_R 6) (kk_Qi Z sh_C (fun r σ' => σ' = σ ∧ Q r)) 111 [] [.int t_5] σ) h ?_ ?_
      · intro t_5 h
        exact kk_iret e_X10_count_111 ⟨rfl, h⟩
      · intro J_6 hJ_6 h
        refine kk_if_eq e_X10_count_103 (fun c_7 => ?_) (fun c_7 => ?_)
        · replace h := h.1 c_7
          refine kk_iconst ic_0 e_X10_count_110 ?_
          exact kk_sub [] rfl (hJ_6 (0 : Int32) h)
        · replace h := h.2 c_7
          refine kk_iconst ic_1 e_X10_count_106 ?_
          refine kk_goto e_X10_count_107 ?_
          exact kk_sub [] rfl (hJ_6 (1 : Int32) h)
    · replace h := h.2.2.2.2.2.2.2.1 hx
      refine kk_swIn (tgt := 112) e_X10_count_1 7 hx (by decide) (by decide) rfl (by decide) ?_
      refine kk_aload_n 0 rfl e_X10_count_112 ?_
      refine kk_callVip (As := []) (rest := []) e_X10_count_113 ml_X10_347 ⟨_, _, _, _, rfl, rfl⟩ rfl (kk_fitR (by decide) (by decide)) (Nat.le_of_ble_eq_true rfl) rfl (s_X10_countEasy Z σ _ h) (fun r_8 h => ?_)
      exact kk_iret e_X10_count_116 ⟨rfl, h⟩
  · replace h := h.2.2.2.2.2.2.2.2 (by omega)
    refine kk_swOut (tgt := 117) e_X10_count_1 (by omega) (by decide) ?_
    refine kk_iconst ic_m1 e_X10_count_117 ?_
    exact kk_iret e_X10_count_118 ⟨rfl, h⟩
theorem e_X6_linesWithin_0 : kk_d cX6_linesWithin 0 (.iconst 0) 1 1 := ⟨by decide +kernel, rfl⟩
theorem e_X6_linesWithin_1 : kk_d cX6_linesWithin 1 (.istore_n 3) 1 2 := ⟨by decide +kernel, rfl⟩
theorem e_X6_linesWithin_2 : kk_d cX6_linesWithin 2 (.iconst 0) 1 3 := ⟨by decide +kernel, rfl⟩
theorem e_X6_linesWithin_3 : kk_d cX6_linesWithin 3 (.istore 4) 2 5 := ⟨by decide +kernel, rfl⟩
theorem e_X6_linesWithin_5 : kk_d cX6_linesWithin 5 (.iload 4) 2 7 := ⟨by decide +kernel, rfl⟩
theorem e_X6_linesWithin_7 : kk_d cX6_linesWithin 7 (.aload_n 0) 1 8 := ⟨by decide +kernel, rfl⟩
theorem e_X6_linesWithin_8 : kk_d cX6_linesWithin 8 (.getfield 27) 3 11 := ⟨by decide +kernel, rfl⟩
theorem e_X6_linesWithin_11 : kk_dj cX6_linesWithin 11 (.if_icmp .ge 28) 3 (28) 14 39 := ⟨by decide +kernel, rfl, by decide⟩
theorem e_X6_linesWithin_39 : kk_d cX6_linesWithin 39 (.iload_n 2) 1 40 := ⟨by decide +kernel, rfl⟩
theorem e_X6_linesWithin_40 : kk_d cX6_linesWithin 40 (.iload_n 3) 1 41 := ⟨by decide +kernel, rfl⟩
theorem e_X6_linesWithin_41 : kk_d cX6_linesWithin 41 (.iconst (-1)) 1 42 := ⟨by decide +kernel, rfl⟩
theorem e_X6_linesWithin_42 : kk_d cX6_linesWithin 42 .ixor 1 43 := ⟨by decide +kernel, rfl⟩
theorem e_X6_linesWithin_43 : kk_d cX6_linesWithin 43 .iand 1 44 := ⟨by decide +kernel, rfl⟩
theorem e_X6_linesWithin_44 : kk_d cX6_linesWithin 44 (.invokestatic 65) 3 47 := ⟨by decide +kernel, rfl⟩
theorem e_X6_linesWithin_47 : kk_d cX6_linesWithin 47 .ireturn 1 48 := ⟨by decide +kernel, rfl⟩
theorem e_X6_linesWithin_14 : kk_d cX6_linesWithin 14 (.iload_n 1) 1 15 := ⟨by decide +kernel, rfl⟩
theorem e_X6_linesWithin_15 : kk_d cX6_linesWithin 15 (.iload 4) 2 17 := ⟨by decide +kernel, rfl⟩
theorem e_X6_linesWithin_17 : kk_d cX6_linesWithin 17 .ishr 1 18 := ⟨by decide +kernel, rfl⟩
theorem e_X6_linesWithin_18 : kk_d cX6_linesWithin 18 (.iconst 1) 1 19 := ⟨by decide +kernel, rfl⟩
theorem e_X6_linesWithin_19 : kk_d cX6_linesWithin 19 .iand 1 20 := ⟨by decide +kernel, rfl⟩
theorem e_X6_linesWithin_20 : kk_dj cX6_linesWithin 20 (.ifCond .ne 13) 3 (13) 23 33 := ⟨by decide +kernel, rfl, by decide⟩
theorem e_X6_linesWithin_33 : kk_d cX6_linesWithin 33 (.iinc 4 1) 3 36 := ⟨by decide +kernel, rfl⟩
theorem e_X6_linesWithin_36 : kk_dj cX6_linesWithin 36 (.goto (-31)) 3 (-31) 39 5 := ⟨by decide +kernel, rfl, by decide⟩
theorem e_X6_linesWithin_23 : kk_d cX6_linesWithin 23 (.iload_n 3) 1 24 := ⟨by decide +kernel, rfl⟩
theorem e_X6_linesWithin_24 : kk_d cX6_linesWithin 24 (.aload_n 0) 1 25 := ⟨by decide +kernel, rfl⟩
theorem e_X6_linesWithin_25 : kk_d cX6_linesWithin 25 (.getfield 21) 3 28 := ⟨by decide +kernel, rfl⟩
theorem e_X6_linesWithin_28 : kk_d cX6_linesWithin 28 (.iload 4) 2 30 := ⟨by decide +kernel, rfl⟩
theorem e_X6_linesWithin_30 : kk_d cX6_linesWithin 30 .iaload 1 31 := ⟨by decide +kernel, rfl⟩
theorem e_X6_linesWithin_31 : kk_d cX6_linesWithin 31 .ior 1 32 := ⟨by decide +kernel, rfl⟩
theorem e_X6_linesWithin_32 : kk_d cX6_linesWithin 32 (.istore_n 3) 1 33 := ⟨by decide +kernel, rfl⟩
set_option maxRecDepth 4000 in
theorem s_X6_linesWithin (Z : kk_Z) (v1 : Int32) (v2 : Int32) (σ : kk_St) (Q : Int32 → Prop) (h : f_X6_linesWithin v1 v2 σ Q) : kk_M Z sh_C yX6_linesWithin cX6_linesWithin 5 (some .int) (kk_R 3) [.ref (Z.2.1 1), .int v1, .int v2] σ (kk_Qi Z sh_C (fun r σ' => σ' = σ ∧ Q r)) := by
  unfold f_X6_linesWithin at h
  refine kk_met (own := RX6) (by decide) rfl (Nat.le_of_ble_eq_true rfl) rfl ?_
  refine kk_iconst ic_0 e_X6_linesWithin_0 ?_
  refine kk_istore_n (lv' := [(3, .int (0 : Int32)), (0, .ref (Z.2.1 1)), (1, .int v1), (2, .int v2)]) e_X6_linesWithin_1 rfl (by decide) rfl ?_
  refine kk_iconst ic_0 e_X6_linesWithin_2 ?_
  refine kk_istore (lv' := [(4, .int (0 : Int32)), (3, .int (0 : Int32)), (0, .ref (Z.2.1 1)), (1, .int v1), (2, .int v2)]) e_X6_linesWithin_3 (by decide) rfl ?_
  refine kk_sub [2, 3, 4, 1, 0] rfl ?_
  refine kk_lpW2 (P := fun (v3_1 : Int32) (v4_2 : Int32) => KK Z sh_C RX6 cX6_linesWithin 5 (some .int) (kk_R 3) (kk_Qi Z sh_C (fun r σ' => σ' = σ ∧ Q r)) 5 [(0, .ref (Z.2.1 1)), (1, .int v1), (2, .int v2), (3, .int v3_1), (4, .int v4_2)] [] σ) ?_ h
  intro rec_3 hrec_3 v3_1 v4_2 h
  refine kk_iload 4 rfl e_X6_linesWithin_5 ?_
  refine kk_aload_n 0 rfl e_X6_linesWithin_7 ?_
  refine kk_geti e_X6_linesWithin_8 fl_X6_27 rfl rfl ?_
  refine kk_icmp_ge e_X6_linesWithin_11 (fun c_9 => ?_) (fun c_9 => ?_)
  · replace h := h.1 c_9
    refine kk_iload_n 2 rfl e_X6_linesWithin_39 ?_
    refine kk_iload_n 3 rfl e_X6_linesWithin_40 ?_
    refine kk_iconst ic_m1 e_X6_linesWithin_41 ?_
    refine kk_ixor e_X6_linesWithin_42 ?_
    refine kk_iand e_X6_linesWithin_43 ?_
    refine kk_callSip (As := [.int (v2 &&& (v3_1 ^^^ (-1 : Int32)))]) (rest := []) e_X6_linesWithin_44 ml_X6_65 rfl (kk_fitR (by decide) (by decide)) (Nat.le_of_ble_eq_true rfl) rfl (s_J6_bitCount_0f7a4 Z (v2 &&& (v3_1 ^^^ (-1 : Int32))) σ _ h) (fun r_4 h => ?_)
    exact kk_iret e_X6_linesWithin_47 ⟨rfl, h⟩
  · replace h := h.2 c_9
    refine kk_iload_n 1 rfl e_X6_linesWithin_14 ?_
    refine kk_iload 4 rfl e_X6_linesWithin_15 ?_
    refine kk_ishr e_X6_linesWithin_17 ?_
    refine kk_iconst ic_1 e_X6_linesWithin_18 ?_
    refine kk_iand e_X6_linesWithin_19 ?_
    refine kk_jW1 (P := fun (v3_5 : Int32) => KK Z sh_C RX6 cX6_linesWithin 5 (some .int) (kk_R 3) (kk_Qi Z sh_C (fun r σ' => σ' = σ ∧ Q r)) 33 [(0, .ref (Z.2.1 1)), (1, .int v1), (2, .int v2), (3, .int v3_5), (4, .int v4_2)] [] σ) h ?_ ?_
    · intro v3_5 h
      refine kk_iinc (lv' := [(4, .int (v4_2 + (1 : Int32))), (0, .ref (Z.2.1 1)), (1, .int v1), (2, .int v2), (3, .int v3_5)]) e_X6_linesWithin_33 (j := 4) rfl (ii_1 v4_2) (by decide) rfl ?_
      refine kk_goto e_X6_linesWithin_36 ?_
      exact kk_sub [1, 2, 3, 4, 0] rfl (hrec_3 v3_5 (v4_2 + (1 : Int32)) h)
    · intro J_6 hJ_6 h
      refine kk_if_ne e_X6_linesWithin_20 (fun c_8 => ?_) (fun c_8 => ?_)
      · replace h := h.1 c_8
        exact kk_sub [0, 1, 2, 3, 4] rfl (hJ_6 v3_1 h)
      · replace h := h.2 c_8
        refine kk_iload_n 3 rfl e_X6_linesWithin_23 ?_
        refine kk_aload_n 0 rfl e_X6_linesWithin_24 ?_
        refine kk_getr e_X6_linesWithin_25 fl_X6_21 rfl rfl ?_
        refine kk_iload 4 rfl e_X6_linesWithin_28 ?_
        refine kk_iald e_X6_linesWithin_30 rfl h.1 ?_
        replace h := h.2
        refine kk_ior e_X6_linesWithin_31 ?_
        refine kk_topi (fun v3_7 ev3_7 => ?_)
        replace h := h v3_7 ev3_7
        refine kk_istore_n (lv' := [(3, .int v3_7), (0, .ref (Z.2.1 1)), (1, .int v1), (2, .int v2), (4, .int v4_2)]) e_X6_linesWithin_32 rfl (by decide) rfl ?_
        exact kk_sub [1, 2, 3, 0, 4] rfl (hJ_6 v3_7 h)
theorem e_X6_crowdedSet_0 : kk_d cX6_crowdedSet 0 (.bipush 7) 2 2 := ⟨by decide +kernel, rfl⟩
theorem e_X6_crowdedSet_2 : kk_d cX6_crowdedSet 2 (.istore_n 3) 1 3 := ⟨by decide +kernel, rfl⟩
theorem e_X6_crowdedSet_3 : kk_d cX6_crowdedSet 3 (.iload_n 3) 1 4 := ⟨by decide +kernel, rfl⟩
theorem e_X6_crowdedSet_4 : kk_d cX6_crowdedSet 4 (.aload_n 0) 1 5 := ⟨by decide +kernel, rfl⟩
theorem e_X6_crowdedSet_5 : kk_d cX6_crowdedSet 5 (.invokevirtual 68) 3 8 := ⟨by decide +kernel, rfl⟩
theorem e_X6_crowdedSet_8 : kk_dj cX6_crowdedSet 8 (.if_icmp .gt 46) 3 (46) 11 54 := ⟨by decide +kernel, rfl, by decide⟩
theorem e_X6_crowdedSet_54 : kk_d cX6_crowdedSet 54 (.iconst 0) 1 55 := ⟨by decide +kernel, rfl⟩
theorem e_X6_crowdedSet_55 : kk_d cX6_crowdedSet 55 .ireturn 1 56 := ⟨by decide +kernel, rfl⟩
theorem e_X6_crowdedSet_11 : kk_d cX6_crowdedSet 11 (.iload_n 3) 1 12 := ⟨by decide +kernel, rfl⟩
theorem e_X6_crowdedSet_12 : kk_d cX6_crowdedSet 12 (.invokestatic 65) 3 15 := ⟨by decide +kernel, rfl⟩
theorem e_X6_crowdedSet_15 : kk_d cX6_crowdedSet 15 (.istore 4) 2 17 := ⟨by decide +kernel, rfl⟩
theorem e_X6_crowdedSet_17 : kk_d cX6_crowdedSet 17 (.iload 4) 2 19 := ⟨by decide +kernel, rfl⟩
theorem e_X6_crowdedSet_19 : kk_d cX6_crowdedSet 19 (.iconst 3) 1 20 := ⟨by decide +kernel, rfl⟩
theorem e_X6_crowdedSet_20 : kk_dj cX6_crowdedSet 20 (.if_icmp .lt 28) 3 (28) 23 48 := ⟨by decide +kernel, rfl, by decide⟩
theorem e_X6_crowdedSet_48 : kk_d cX6_crowdedSet 48 (.iinc 3 1) 3 51 := ⟨by decide +kernel, rfl⟩
theorem e_X6_crowdedSet_51 : kk_dj cX6_crowdedSet 51 (.goto (-48)) 3 (-48) 54 3 := ⟨by decide +kernel, rfl, by decide⟩
theorem e_X6_crowdedSet_23 : kk_d cX6_crowdedSet 23 (.iload 4) 2 25 := ⟨by decide +kernel, rfl⟩
theorem e_X6_crowdedSet_25 : kk_d cX6_crowdedSet 25 (.iconst 2) 1 26 := ⟨by decide +kernel, rfl⟩
theorem e_X6_crowdedSet_26 : kk_d cX6_crowdedSet 26 .irem 1 27 := ⟨by decide +kernel, rfl⟩
theorem e_X6_crowdedSet_27 : kk_d cX6_crowdedSet 27 (.iconst 1) 1 28 := ⟨by decide +kernel, rfl⟩
theorem e_X6_crowdedSet_28 : kk_dj cX6_crowdedSet 28 (.if_icmp .ne 20) 3 (20) 31 48 := ⟨by decide +kernel, rfl, by decide⟩
theorem e_X6_crowdedSet_31 : kk_d cX6_crowdedSet 31 (.aload_n 0) 1 32 := ⟨by decide +kernel, rfl⟩
theorem e_X6_crowdedSet_32 : kk_d cX6_crowdedSet 32 (.iload_n 3) 1 33 := ⟨by decide +kernel, rfl⟩
theorem e_X6_crowdedSet_33 : kk_d cX6_crowdedSet 33 (.iload_n 1) 1 34 := ⟨by decide +kernel, rfl⟩
theorem e_X6_crowdedSet_34 : kk_d cX6_crowdedSet 34 (.invokevirtual 71) 3 37 := ⟨by decide +kernel, rfl⟩
theorem e_X6_crowdedSet_37 : kk_d cX6_crowdedSet 37 (.iload_n 2) 1 38 := ⟨by decide +kernel, rfl⟩
theorem e_X6_crowdedSet_38 : kk_d cX6_crowdedSet 38 (.iload 4) 2 40 := ⟨by decide +kernel, rfl⟩
theorem e_X6_crowdedSet_40 : kk_d cX6_crowdedSet 40 (.iconst 2) 1 41 := ⟨by decide +kernel, rfl⟩
theorem e_X6_crowdedSet_41 : kk_d cX6_crowdedSet 41 .idiv 1 42 := ⟨by decide +kernel, rfl⟩
theorem e_X6_crowdedSet_42 : kk_d cX6_crowdedSet 42 .imul 1 43 := ⟨by decide +kernel, rfl⟩
theorem e_X6_crowdedSet_43 : kk_dj cX6_crowdedSet 43 (.if_icmp .le 5) 3 (5) 46 48 := ⟨by decide +kernel, rfl, by decide⟩
theorem e_X6_crowdedSet_46 : kk_d cX6_crowdedSet 46 (.iload_n 3) 1 47 := ⟨by decide +kernel, rfl⟩
theorem e_X6_crowdedSet_47 : kk_d cX6_crowdedSet 47 .ireturn 1 48 := ⟨by decide +kernel, rfl⟩
set_option maxRecDepth 4000 in
theorem s_X6_crowdedSet (Z : kk_Z) (v1 : Int32) (v2 : Int32) (σ : kk_St) (Q : Int32 → Prop) (h : f_X6_crowdedSet v1 v2 σ Q) : kk_M Z sh_C yX6_crowdedSet cX6_crowdedSet 5 (some .int) (kk_R 4) [.ref (Z.2.1 1), .int v1, .int v2] σ (kk_Qi Z sh_C (fun r σ' => σ' = σ ∧ Q r)) := by
  unfold f_X6_crowdedSet at h
  refine kk_met (own := RX6) (by decide) rfl (Nat.le_of_ble_eq_true rfl) rfl ?_
  refine kk_bipush bp_7 e_X6_crowdedSet_0 ?_
  refine kk_istore_n (lv' := [(3, .int (7 : Int32)), (0, .ref (Z.2.1 1)), (1, .int v1), (2, .int v2)]) e_X6_crowdedSet_2 rfl (by decide) rfl ?_
  refine kk_sub [1, 2, 3, 0] rfl ?_
  refine kk_lpW1 (P := fun (v3_1 : Int32) => KK Z sh_C RX6 cX6_crowdedSet 5 (some .int) (kk_R 4) (kk_Qi Z sh_C (fun r σ' => σ' = σ ∧ Q r)) 3 [(0, .ref (Z.2.1 1)), (1, .int v1), (2, .int v2), (3, .int v3_1)] [] σ) ?_ h
  intro rec_2 hrec_2 v3_1 h
  refine kk_iload_n 3 rfl e_X6_crowdedSet_3 ?_
  refine kk_aload_n 0 rfl e_X6_crowdedSet_4 ?_
  refine kk_callVip (As := []) (rest := [.int v3_1]) e_X6_crowdedSet_5 ml_X6_68 ⟨_, _, _, _, rfl, rfl⟩ rfl (kk_fitR (by decide) (by decide)) (Nat.le_of_ble_eq_true rfl) rfl (s_X6_allPosts Z σ _ h) (fun r_3 h => ?_)
  refine kk_icmp_gt e_X6_crowdedSet_8 (fun c_10 => ?_) (fun c_10 => ?_)
  · replace h := h.1 c_10
    refine kk_iconst ic_0 e_X6_crowdedSet_54 ?_
    exact kk_iret e_X6_crowdedSet_55 ⟨rfl, h⟩
  · replace h := h.2 c_10
    refine kk_iload_n 3 rfl e_X6_crowdedSet_11 ?_
    refine kk_callSip (As := [.int v3_1]) (rest := []) e_X6_crowdedSet_12 ml_X6_65 rfl (kk_fitR (by decide) (by decide)) (Nat.le_of_ble_eq_true rfl) rfl (s_J6_bitCount_0f7a4 Z v3_1 σ _ h) (fun r_4 h => ?_)
    refine kk_istore (lv' := [(4, .int r_4), (0, .ref (Z.2.1 1)), (1, .int v1), (2, .int v2), (3, .int v3_1)]) e_X6_crowdedSet_15 (by decide) rfl ?_
    refine kk_iload 0 rfl e_X6_crowdedSet_17 ?_
    refine kk_iconst ic_3 e_X6_crowdedSet_19 ?_
    refine kk_jW0 (P := KK Z sh_C RX6 cX6_crowdedSet 5 (some .int) (kk_R 4) (kk_Qi Z sh_C (fun r σ' => σ' = σ ∧ Q r)) 48 [(0, .ref (Z.2.1 1)), (1, .int v1), (2, .int v2), (3, .int v3_1)] [] σ) h ?_ ?_
    · intro h
      refine kk_iinc (lv' := [(3, .int (v3_1 + (1 : Int32))), (0, .ref (Z.2.1 1)), (1, .int v1), (2, .int v2)]) e_X6_crowdedSet_48 (j := 3) rfl (ii_1 v3_1) (by decide) rfl ?_
      refine kk_goto e_X6_crowdedSet_51 ?_
      exact kk_sub [1, 2, 3, 0] rfl (hrec_2 (v3_1 + (1 : Int32)) h)
    · intro J_5 hJ_5 h
      refine kk_icmp_lt e_X6_crowdedSet_20 (fun c_9 => ?_) (fun c_9 => ?_)
      · replace h := h.1 c_9
        exact kk_sub [1, 2, 3, 4] rfl (hJ_5 h)
      · replace h := h.2 c_9
        refine kk_iload 0 rfl e_X6_crowdedSet_23 ?_
        refine kk_iconst ic_2 e_X6_crowdedSet_25 ?_
        refine kk_irem nz_2 e_X6_crowdedSet_26 ?_
        refine kk_iconst ic_1 e_X6_crowdedSet_27 ?_
        refine kk_icmp_ne e_X6_crowdedSet_28 (fun c_8 => ?_) (fun c_8 => ?_)
        · replace h := h.1 c_8
          exact kk_sub [1, 2, 3, 4] rfl (hJ_5 h)
        · replace h := h.2 c_8
          refine kk_aload_n 1 rfl e_X6_crowdedSet_31 ?_
          refine kk_iload_n 4 rfl e_X6_crowdedSet_32 ?_
          refine kk_iload_n 2 rfl e_X6_crowdedSet_33 ?_
          refine kk_callVip (As := [.int v3_1, .int v1]) (rest := []) e_X6_crowdedSet_34 ml_X6_71 ⟨_, _, _, _, rfl, rfl⟩ rfl (kk_fitR (by decide) (by decide)) (Nat.le_of_ble_eq_true rfl) rfl (s_X6_linesWithin Z v3_1 v1 σ _ h) (fun r_6 h => ?_)
          refine kk_iload_n 3 rfl e_X6_crowdedSet_37 ?_
          refine kk_iload 0 rfl e_X6_crowdedSet_38 ?_
          refine kk_iconst ic_2 e_X6_crowdedSet_40 ?_
          refine kk_idiv nz_2 e_X6_crowdedSet_41 ?_
          refine kk_imul e_X6_crowdedSet_42 ?_
          refine kk_icmp_le e_X6_crowdedSet_43 (fun c_7 => ?_) (fun c_7 => ?_)
          · replace h := h.1 c_7
            exact kk_sub [1, 2, 3, 4] rfl (hJ_5 h)
          · replace h := h.2 c_7
            refine kk_iload_n 4 rfl e_X6_crowdedSet_46 ?_
            exact kk_iret e_X6_crowdedSet_47 ⟨rfl, h⟩
theorem e_X6_mostAtOnePost_0 : kk_d cX6_mostAtOnePost 0 (.iconst 0) 1 1 := ⟨by decide +kernel, rfl⟩
theorem e_X6_mostAtOnePost_1 : kk_d cX6_mostAtOnePost 1 (.istore_n 2) 1 2 := ⟨by decide +kernel, rfl⟩
theorem e_X6_mostAtOnePost_2 : kk_d cX6_mostAtOnePost 2 (.iconst 0) 1 3 := ⟨by decide +kernel, rfl⟩
theorem e_X6_mostAtOnePost_3 : kk_d cX6_mostAtOnePost 3 (.istore_n 3) 1 4 := ⟨by decide +kernel, rfl⟩
theorem e_X6_mostAtOnePost_4 : kk_d cX6_mostAtOnePost 4 (.iload_n 3) 1 5 := ⟨by decide +kernel, rfl⟩
theorem e_X6_mostAtOnePost_5 : kk_d cX6_mostAtOnePost 5 (.aload_n 0) 1 6 := ⟨by decide +kernel, rfl⟩
theorem e_X6_mostAtOnePost_6 : kk_d cX6_mostAtOnePost 6 (.getfield 27) 3 9 := ⟨by decide +kernel, rfl⟩
theorem e_X6_mostAtOnePost_9 : kk_dj cX6_mostAtOnePost 9 (.if_icmp .ge 25) 3 (25) 12 34 := ⟨by decide +kernel, rfl, by decide⟩
theorem e_X6_mostAtOnePost_34 : kk_d cX6_mostAtOnePost 34 (.iload_n 2) 1 35 := ⟨by decide +kernel, rfl⟩
theorem e_X6_mostAtOnePost_35 : kk_d cX6_mostAtOnePost 35 .ireturn 1 36 := ⟨by decide +kernel, rfl⟩
theorem e_X6_mostAtOnePost_12 : kk_d cX6_mostAtOnePost 12 (.iload_n 2) 1 13 := ⟨by decide +kernel, rfl⟩
theorem e_X6_mostAtOnePost_13 : kk_d cX6_mostAtOnePost 13 (.aload_n 0) 1 14 := ⟨by decide +kernel, rfl⟩
theorem e_X6_mostAtOnePost_14 : kk_d cX6_mostAtOnePost 14 (.getfield 21) 3 17 := ⟨by decide +kernel, rfl⟩
theorem e_X6_mostAtOnePost_17 : kk_d cX6_mostAtOnePost 17 (.iload_n 3) 1 18 := ⟨by decide +kernel, rfl⟩
theorem e_X6_mostAtOnePost_18 : kk_d cX6_mostAtOnePost 18 .iaload 1 19 := ⟨by decide +kernel, rfl⟩
theorem e_X6_mostAtOnePost_19 : kk_d cX6_mostAtOnePost 19 (.iload_n 1) 1 20 := ⟨by decide +kernel, rfl⟩
theorem e_X6_mostAtOnePost_20 : kk_d cX6_mostAtOnePost 20 .iand 1 21 := ⟨by decide +kernel, rfl⟩
theorem e_X6_mostAtOnePost_21 : kk_d cX6_mostAtOnePost 21 (.invokestatic 65) 3 24 := ⟨by decide +kernel, rfl⟩
theorem e_X6_mostAtOnePost_24 : kk_d cX6_mostAtOnePost 24 (.invokestatic 49) 3 27 := ⟨by decide +kernel, rfl⟩
theorem e_X6_mostAtOnePost_27 : kk_d cX6_mostAtOnePost 27 (.istore_n 2) 1 28 := ⟨by decide +kernel, rfl⟩
theorem e_X6_mostAtOnePost_28 : kk_d cX6_mostAtOnePost 28 (.iinc 3 1) 3 31 := ⟨by decide +kernel, rfl⟩
theorem e_X6_mostAtOnePost_31 : kk_dj cX6_mostAtOnePost 31 (.goto (-27)) 3 (-27) 34 4 := ⟨by decide +kernel, rfl, by decide⟩
set_option maxRecDepth 4000 in
theorem s_X6_mostAtOnePost (Z : kk_Z) (v1 : Int32) (σ : kk_St) (Q : Int32 → Prop) (h : f_X6_mostAtOnePost v1 σ Q) : kk_M Z sh_C yX6_mostAtOnePost cX6_mostAtOnePost 4 (some .int) (kk_R 3) [.ref (Z.2.1 1), .int v1] σ (kk_Qi Z sh_C (fun r σ' => σ' = σ ∧ Q r)) := by
  unfold f_X6_mostAtOnePost at h
  refine kk_met (own := RX6) (by decide) rfl (Nat.le_of_ble_eq_true rfl) rfl ?_
  refine kk_iconst ic_0 e_X6_mostAtOnePost_0 ?_
  refine kk_istore_n (lv' := [(2, .int (0 : Int32)), (0, .ref (Z.2.1 1)), (1, .int v1)]) e_X6_mostAtOnePost_1 rfl (by decide) rfl ?_
  refine kk_iconst ic_0 e_X6_mostAtOnePost_2 ?_
  refine kk_istore_n (lv' := [(3, .int (0 : Int32)), (2, .int (0 : Int32)), (0, .ref (Z.2.1 1)), (1, .int v1)]) e_X6_mostAtOnePost_3 rfl (by decide) rfl ?_
  refine kk_sub [2, 3, 1, 0] rfl ?_
  refine kk_lpW2 (P := fun (v2_1 : Int32) (v3_2 : Int32) => KK Z sh_C RX6 cX6_mostAtOnePost 4 (some .int) (kk_R 3) (kk_Qi Z sh_C (fun r σ' => σ' = σ ∧ Q r)) 4 [(0, .ref (Z.2.1 1)), (1, .int v1), (2, .int v2_1), (3, .int v3_2)] [] σ) ?_ h
  intro rec_3 hrec_3 v2_1 v3_2 h
  refine kk_iload_n 3 rfl e_X6_mostAtOnePost_4 ?_
  refine kk_aload_n 0 rfl e_X6_mostAtOnePost_5 ?_
  refine kk_geti e_X6_mostAtOnePost_6 fl_X6_27 rfl rfl ?_
  refine kk_icmp_ge e_X6_mostAtOnePost_9 (fun c_5 => ?_) (fun c_5 => ?_)
  · replace h := h.1 c_5
    refine kk_iload_n 2 rfl e_X6_mostAtOnePost_34 ?_
    exact kk_iret e_X6_mostAtOnePost_35 ⟨rfl, h⟩
  · replace h := h.2 c_5
    refine kk_iload_n 2 rfl e_X6_mostAtOnePost_12 ?_
    refine kk_aload_n 0 rfl e_X6_mostAtOnePost_13 ?_
    refine kk_getr e_X6_mostAtOnePost_14 fl_X6_21 rfl rfl ?_
    refine kk_iload_n 3 rfl e_X6_mostAtOnePost_17 ?_
    refine kk_iald e_X6_mostAtOnePost_18 rfl h.1 ?_
    replace h := h.2
    refine kk_iload_n 1 rfl e_X6_mostAtOnePost_19 ?_
    refine kk_iand e_X6_mostAtOnePost_20 ?_
    refine kk_callSip (As := [.int ((kk_rd σ 14 v3_2) &&& v1)]) (rest := [.int v2_1]) e_X6_mostAtOnePost_21 ml_X6_65 rfl (kk_fitR (by decide) (by decide)) (Nat.le_of_ble_eq_true rfl) rfl (s_J6_bitCount_0f7a4 Z ((kk_rd σ 14 v3_2) &&& v1) σ _ h) (fun r_4 h => ?_)
    refine kk_mmax e_X6_mostAtOnePost_24 mx_X6_49 mx_max_static mx_init mx_max_code ⟨Nat.le_of_ble_eq_true rfl, Nat.le_of_ble_eq_true rfl⟩ ?_
    refine kk_istore_n (lv' := [(2, .int (kk_max v2_1 r_4)), (0, .ref (Z.2.1 1)), (1, .int v1), (3, .int v3_2)]) e_X6_mostAtOnePost_27 rfl (by decide) rfl ?_
    refine kk_iinc (lv' := [(3, .int (v3_2 + (1 : Int32))), (2, .int (kk_max v2_1 r_4)), (0, .ref (Z.2.1 1)), (1, .int v1)]) e_X6_mostAtOnePost_28 (j := 3) rfl (ii_1 v3_2) (by decide) rfl ?_
    refine kk_goto e_X6_mostAtOnePost_31 ?_
    exact kk_sub [2, 3, 1, 0] rfl (hrec_3 (kk_max v2_1 r_4) (v3_2 + (1 : Int32)) h)
theorem e_X7_completeWith_0 : kk_d cX7_completeWith 0 (.aload_n 0) 1 1 := ⟨by decide +kernel, rfl⟩
theorem e_X7_completeWith_1 : kk_d cX7_completeWith 1 (.getfield 9) 3 4 := ⟨by decide +kernel, rfl⟩
theorem e_X7_completeWith_4 : kk_d cX7_completeWith 4 (.iload_n 2) 1 5 := ⟨by decide +kernel, rfl⟩
theorem e_X7_completeWith_5 : kk_d cX7_completeWith 5 .iaload 1 6 := ⟨by decide +kernel, rfl⟩
theorem e_X7_completeWith_6 : kk_d cX7_completeWith 6 (.istore 5) 2 8 := ⟨by decide +kernel, rfl⟩
theorem e_X7_completeWith_8 : kk_d cX7_completeWith 8 (.aload_n 0) 1 9 := ⟨by decide +kernel, rfl⟩
theorem e_X7_completeWith_9 : kk_d cX7_completeWith 9 (.getfield 9) 3 12 := ⟨by decide +kernel, rfl⟩
theorem e_X7_completeWith_12 : kk_d cX7_completeWith 12 (.iload_n 2) 1 13 := ⟨by decide +kernel, rfl⟩
theorem e_X7_completeWith_13 : kk_d cX7_completeWith 13 (.iload 5) 2 15 := ⟨by decide +kernel, rfl⟩
theorem e_X7_completeWith_15 : kk_d cX7_completeWith 15 (.aload_n 0) 1 16 := ⟨by decide +kernel, rfl⟩
theorem e_X7_completeWith_16 : kk_d cX7_completeWith 16 (.getfield 35) 3 19 := ⟨by decide +kernel, rfl⟩
theorem e_X7_completeWith_19 : kk_d cX7_completeWith 19 (.getfield 88) 3 22 := ⟨by decide +kernel, rfl⟩
theorem e_X7_completeWith_22 : kk_d cX7_completeWith 22 (.iload_n 1) 1 23 := ⟨by decide +kernel, rfl⟩
theorem e_X7_completeWith_23 : kk_d cX7_completeWith 23 .iaload 1 24 := ⟨by decide +kernel, rfl⟩
theorem e_X7_completeWith_24 : kk_d cX7_completeWith 24 (.iconst (-1)) 1 25 := ⟨by decide +kernel, rfl⟩
theorem e_X7_completeWith_25 : kk_d cX7_completeWith 25 .ixor 1 26 := ⟨by decide +kernel, rfl⟩
theorem e_X7_completeWith_26 : kk_d cX7_completeWith 26 .iand 1 27 := ⟨by decide +kernel, rfl⟩
theorem e_X7_completeWith_27 : kk_d cX7_completeWith 27 .iastore 1 28 := ⟨by decide +kernel, rfl⟩
theorem e_X7_completeWith_28 : kk_d cX7_completeWith 28 (.aload_n 0) 1 29 := ⟨by decide +kernel, rfl⟩
theorem e_X7_completeWith_29 : kk_d cX7_completeWith 29 (.iload_n 3) 1 30 := ⟨by decide +kernel, rfl⟩
theorem e_X7_completeWith_30 : kk_d cX7_completeWith 30 (.iload 4) 2 32 := ⟨by decide +kernel, rfl⟩
theorem e_X7_completeWith_32 : kk_d cX7_completeWith 32 (.invokevirtual 73) 3 35 := ⟨by decide +kernel, rfl⟩
theorem e_X7_completeWith_35 : kk_d cX7_completeWith 35 (.istore 6) 2 37 := ⟨by decide +kernel, rfl⟩
theorem e_X7_completeWith_37 : kk_d cX7_completeWith 37 (.aload_n 0) 1 38 := ⟨by decide +kernel, rfl⟩
theorem e_X7_completeWith_38 : kk_d cX7_completeWith 38 (.getfield 9) 3 41 := ⟨by decide +kernel, rfl⟩
theorem e_X7_completeWith_41 : kk_d cX7_completeWith 41 (.iload_n 2) 1 42 := ⟨by decide +kernel, rfl⟩
theorem e_X7_completeWith_42 : kk_d cX7_completeWith 42 (.iload 5) 2 44 := ⟨by decide +kernel, rfl⟩
theorem e_X7_completeWith_44 : kk_d cX7_completeWith 44 .iastore 1 45 := ⟨by decide +kernel, rfl⟩
theorem e_X7_completeWith_45 : kk_d cX7_completeWith 45 (.iload 6) 2 47 := ⟨by decide +kernel, rfl⟩
theorem e_X7_completeWith_47 : kk_dj cX7_completeWith 47 (.ifCond .eq 10) 3 (10) 50 57 := ⟨by decide +kernel, rfl, by decide⟩
theorem e_X7_completeWith_57 : kk_d cX7_completeWith 57 (.iload 6) 2 59 := ⟨by decide +kernel, rfl⟩
theorem e_X7_completeWith_59 : kk_d cX7_completeWith 59 .ireturn 1 60 := ⟨by decide +kernel, rfl⟩
theorem e_X7_completeWith_50 : kk_d cX7_completeWith 50 (.aload_n 0) 1 51 := ⟨by decide +kernel, rfl⟩
theorem e_X7_completeWith_51 : kk_d cX7_completeWith 51 (.getfield 15) 3 54 := ⟨by decide +kernel, rfl⟩
theorem e_X7_completeWith_54 : kk_d cX7_completeWith 54 (.iload_n 1) 1 55 := ⟨by decide +kernel, rfl⟩
theorem e_X7_completeWith_55 : kk_d cX7_completeWith 55 (.iload_n 2) 1 56 := ⟨by decide +kernel, rfl⟩
theorem e_X7_completeWith_56 : kk_d cX7_completeWith 56 .iastore 1 57 := ⟨by decide +kernel, rfl⟩
set_option maxRecDepth 4000 in
theorem s_X7_completeWith (Z : kk_Z) (fr : Int32 → Int32 → kk_St → (Int32 → kk_St → Prop) → Prop) (d : Nat) (hfr : ∀ (x0 : Int32) (x1 : Int32) (σ : kk_St) (Q : Int32 → kk_St → Prop), fr x0 x1 σ Q → kk_M Z sh_C yX7_complete cX7_complete 7 (some .boolean) (kk_R d) [.ref (Z.2.1 7), .int x0, .int x1] σ (kk_Qi Z sh_C Q)) (v1 : Int32) (v2 : Int32) (v3 : Int32) (v4 : Int32) (σ : kk_St) (Q : Int32 → kk_St → Prop) (h : f_X7_completeWith fr v1 v2 v3 v4 σ Q) : kk_M Z sh_C yX7_completeWith cX7_completeWith 7 (some .boolean) (kk_R (d + 1)) [.ref (Z.2.1 7), .int v1, .int v2, .int v3, .int v4] σ (kk_Qi Z sh_C Q) := by
  unfold f_X7_completeWith at h
  refine kk_met (own := RX7) (by decide) rfl (Nat.le_of_ble_eq_true rfl) rfl ?_
  refine kk_aload_n 0 rfl e_X7_completeWith_0 ?_
  refine kk_getr e_X7_completeWith_1 fl_X7_9 rfl rfl ?_
  refine kk_iload_n 2 rfl e_X7_completeWith_4 ?_
  refine kk_iald e_X7_completeWith_5 rfl h.1 ?_
  replace h := h.2
  refine kk_istore (lv' := [(5, .int (kk_rd σ 20 v2)), (0, .ref (Z.2.1 7)), (1, .int v1), (2, .int v2), (3, .int v3), (4, .int v4)]) e_X7_completeWith_6 (by decide) rfl ?_
  refine kk_aload_n 1 rfl e_X7_completeWith_8 ?_
  refine kk_getr e_X7_completeWith_9 fl_X7_9 rfl rfl ?_
  refine kk_iload_n 3 rfl e_X7_completeWith_12 ?_
  refine kk_iload 0 rfl e_X7_completeWith_13 ?_
  refine kk_aload_n 1 rfl e_X7_completeWith_15 ?_
  refine kk_getr e_X7_completeWith_16 fl_X7_35 rfl rfl ?_
  refine kk_getr e_X7_completeWith_19 fl_X7_88 rfl rfl ?_
  refine kk_iload_n 2 rfl e_X7_completeWith_22 ?_
  refine kk_iald e_X7_completeWith_23 rfl h.1 ?_
  replace h := h.2
  refine kk_iconst ic_m1 e_X7_completeWith_24 ?_
  refine kk_ixor e_X7_completeWith_25 ?_
  refine kk_iand e_X7_completeWith_26 ?_
  refine kk_iast e_X7_completeWith_27 rfl h.1 ?_
  replace h := h.2
  refine kk_tops (fun σ_1 eσ_1 => ?_)
  replace h := h σ_1 eσ_1
  refine kk_aload_n 1 rfl e_X7_completeWith_28 ?_
  refine kk_iload_n 4 rfl e_X7_completeWith_29 ?_
  refine kk_iload 5 rfl e_X7_completeWith_30 ?_
  refine kk_callVi (As := [.int v3, .int v4]) (rest := []) e_X7_completeWith_32 ml_X7_73 ⟨_, _, _, _, rfl, rfl⟩ rfl (kk_fitR (by omega) (by decide)) (Nat.le_of_ble_eq_true rfl) rfl (hfr v3 v4 σ_1 _ h) (fun r_2 σ_3 h => ?_)
  refine kk_istore (lv' := [(6, .int r_2), (5, .int (kk_rd σ 20 v2)), (0, .ref (Z.2.1 7)), (1, .int v1), (2, .int v2), (3, .int v3), (4, .int v4)]) e_X7_completeWith_35 (by decide) rfl ?_
  refine kk_aload_n 2 rfl e_X7_completeWith_37 ?_
  refine kk_getr e_X7_completeWith_38 fl_X7_9 rfl rfl ?_
  refine kk_iload_n 4 rfl e_X7_completeWith_41 ?_
  refine kk_iload 1 rfl e_X7_completeWith_42 ?_
  refine kk_iast e_X7_completeWith_44 rfl h.1 ?_
  replace h := h.2
  refine kk_tops (fun σ_4 eσ_4 => ?_)
  replace h := h σ_4 eσ_4
  refine kk_iload 0 rfl e_X7_completeWith_45 ?_
  refine kk_jW1 (P := fun (σ_5 : kk_St) => KK Z sh_C RX7 cX7_completeWith 7 (some .boolean) (kk_R (d + 1)) (kk_Qi Z sh_C Q) 57 [(6, .int r_2)] [] σ_5) h ?_ ?_
  · intro σ_5 h
    refine kk_iload 0 rfl e_X7_completeWith_57 ?_
    exact kk_zret e_X7_completeWith_59 h.1 h.2
  · intro J_6 hJ_6 h
    refine kk_if_eq e_X7_completeWith_47 (fun c_8 => ?_) (fun c_8 => ?_)
    · replace h := h.1 c_8
      exact kk_sub [0] rfl (hJ_6 σ_4 h)
    · replace h := h.2 c_8
      refine kk_aload_n 2 rfl e_X7_completeWith_50 ?_
      refine kk_getr e_X7_completeWith_51 fl_X7_15 rfl rfl ?_
      refine kk_iload_n 3 rfl e_X7_completeWith_54 ?_
      refine kk_iload_n 4 rfl e_X7_completeWith_55 ?_
      refine kk_iast e_X7_completeWith_56 rfl h.1 ?_
      replace h := h.2
      refine kk_tops (fun σ_7 eσ_7 => ?_)
      replace h := h σ_7 eσ_7
      exact kk_sub [0] rfl (hJ_6 σ_7 h)
theorem e_X7_hasTwin_0 : kk_d cX7_hasTwin 0 (.iconst 0) 1 1 := ⟨by decide +kernel, rfl⟩
theorem e_X7_hasTwin_1 : kk_d cX7_hasTwin 1 (.istore_n 3) 1 2 := ⟨by decide +kernel, rfl⟩
theorem e_X7_hasTwin_2 : kk_d cX7_hasTwin 2 (.iload_n 3) 1 3 := ⟨by decide +kernel, rfl⟩
theorem e_X7_hasTwin_3 : kk_d cX7_hasTwin 3 (.iload_n 1) 1 4 := ⟨by decide +kernel, rfl⟩
theorem e_X7_hasTwin_4 : kk_dj cX7_hasTwin 4 (.if_icmp .ge 29) 3 (29) 7 33 := ⟨by decide +kernel, rfl, by decide⟩
theorem e_X7_hasTwin_33 : kk_d cX7_hasTwin 33 (.iconst 0) 1 34 := ⟨by decide +kernel, rfl⟩
theorem e_X7_hasTwin_34 : kk_d cX7_hasTwin 34 .ireturn 1 35 := ⟨by decide +kernel, rfl⟩
theorem e_X7_hasTwin_7 : kk_d cX7_hasTwin 7 (.aload_n 0) 1 8 := ⟨by decide +kernel, rfl⟩
theorem e_X7_hasTwin_8 : kk_d cX7_hasTwin 8 (.getfield 9) 3 11 := ⟨by decide +kernel, rfl⟩
theorem e_X7_hasTwin_11 : kk_d cX7_hasTwin 11 (.iload_n 3) 1 12 := ⟨by decide +kernel, rfl⟩
theorem e_X7_hasTwin_12 : kk_d cX7_hasTwin 12 .iaload 1 13 := ⟨by decide +kernel, rfl⟩
theorem e_X7_hasTwin_13 : kk_d cX7_hasTwin 13 (.aload_n 0) 1 14 := ⟨by decide +kernel, rfl⟩
theorem e_X7_hasTwin_14 : kk_d cX7_hasTwin 14 (.getfield 9) 3 17 := ⟨by decide +kernel, rfl⟩
theorem e_X7_hasTwin_17 : kk_d cX7_hasTwin 17 (.iload_n 1) 1 18 := ⟨by decide +kernel, rfl⟩
theorem e_X7_hasTwin_18 : kk_d cX7_hasTwin 18 .iaload 1 19 := ⟨by decide +kernel, rfl⟩
theorem e_X7_hasTwin_19 : kk_d cX7_hasTwin 19 .ixor 1 20 := ⟨by decide +kernel, rfl⟩
theorem e_X7_hasTwin_20 : kk_d cX7_hasTwin 20 (.iload_n 2) 1 21 := ⟨by decide +kernel, rfl⟩
theorem e_X7_hasTwin_21 : kk_d cX7_hasTwin 21 .iand 1 22 := ⟨by decide +kernel, rfl⟩
theorem e_X7_hasTwin_22 : kk_dj cX7_hasTwin 22 (.ifCond .ne 5) 3 (5) 25 27 := ⟨by decide +kernel, rfl, by decide⟩
theorem e_X7_hasTwin_27 : kk_d cX7_hasTwin 27 (.iinc 3 1) 3 30 := ⟨by decide +kernel, rfl⟩
theorem e_X7_hasTwin_30 : kk_dj cX7_hasTwin 30 (.goto (-28)) 3 (-28) 33 2 := ⟨by decide +kernel, rfl, by decide⟩
theorem e_X7_hasTwin_25 : kk_d cX7_hasTwin 25 (.iconst 1) 1 26 := ⟨by decide +kernel, rfl⟩
theorem e_X7_hasTwin_26 : kk_d cX7_hasTwin 26 .ireturn 1 27 := ⟨by decide +kernel, rfl⟩
set_option maxRecDepth 4000 in
theorem s_X7_hasTwin (Z : kk_Z) (v1 : Int32) (v2 : Int32) (σ : kk_St) (Q : Int32 → Prop) (h : f_X7_hasTwin v1 v2 σ Q) : kk_M Z sh_C yX7_hasTwin cX7_hasTwin 4 (some .boolean) (kk_R 2) [.ref (Z.2.1 7), .int v1, .int v2] σ (kk_Qi Z sh_C (fun r σ' => σ' = σ ∧ Q r)) := by
  unfold f_X7_hasTwin at h
  refine kk_met (own := RX7) (by decide) rfl (Nat.le_of_ble_eq_true rfl) rfl ?_
  refine kk_iconst ic_0 e_X7_hasTwin_0 ?_
  refine kk_istore_n (lv' := [(3, .int (0 : Int32)), (0, .ref (Z.2.1 7)), (1, .int v1), (2, .int v2)]) e_X7_hasTwin_1 rfl (by decide) rfl ?_
  refine kk_sub [1, 2, 3, 0] rfl ?_
  refine kk_lpW1 (P := fun (v3_1 : Int32) => KK Z sh_C RX7 cX7_hasTwin 4 (some .boolean) (kk_R 2) (kk_Qi Z sh_C (fun r σ' => σ' = σ ∧ Q r)) 2 [(0, .ref (Z.2.1 7)), (1, .int v1), (2, .int v2), (3, .int v3_1)] [] σ) ?_ h
  intro rec_2 hrec_2 v3_1 h
  refine kk_iload_n 3 rfl e_X7_hasTwin_2 ?_
  refine kk_iload_n 1 rfl e_X7_hasTwin_3 ?_
  refine kk_icmp_ge e_X7_hasTwin_4 (fun c_4 => ?_) (fun c_4 => ?_)
  · replace h := h.1 c_4
    refine kk_iconst ic_0 e_X7_hasTwin_33 ?_
    exact kk_zret e_X7_hasTwin_34 (Or.inl rfl) ⟨rfl, h⟩
  · replace h := h.2 c_4
    refine kk_aload_n 0 rfl e_X7_hasTwin_7 ?_
    refine kk_getr e_X7_hasTwin_8 fl_X7_9 rfl rfl ?_
    refine kk_iload_n 3 rfl e_X7_hasTwin_11 ?_
    refine kk_iald e_X7_hasTwin_12 rfl h.1 ?_
    replace h := h.2
    refine kk_aload_n 0 rfl e_X7_hasTwin_13 ?_
    refine kk_getr e_X7_hasTwin_14 fl_X7_9 rfl rfl ?_
    refine kk_iload_n 1 rfl e_X7_hasTwin_17 ?_
    refine kk_iald e_X7_hasTwin_18 rfl h.1 ?_
    replace h := h.2
    refine kk_ixor e_X7_hasTwin_19 ?_
    refine kk_iload_n 2 rfl e_X7_hasTwin_20 ?_
    refine kk_iand e_X7_hasTwin_21 ?_
    refine kk_if_ne e_X7_hasTwin_22 (fun c_3 => ?_) (fun c_3 => ?_)
    · replace h := h.1 c_3
      refine kk_iinc (lv' := [(3, .int (v3_1 + (1 : Int32))), (0, .ref (Z.2.1 7)), (1, .int v1), (2, .int v2)]) e_X7_hasTwin_27 (j := 3) rfl (ii_1 v3_1) (by decide) rfl ?_
      refine kk_goto e_X7_hasTwin_30 ?_
      exact kk_sub [1, 2, 3, 0] rfl (hrec_2 (v3_1 + (1 : Int32)) h)
    · replace h := h.2 c_3
      refine kk_iconst ic_1 e_X7_hasTwin_25 ?_
      exact kk_zret e_X7_hasTwin_26 (Or.inr rfl) ⟨rfl, h⟩
theorem e_X7_hasCrampedPost_0 : kk_d cX7_hasCrampedPost 0 (.iconst 0) 1 1 := ⟨by decide +kernel, rfl⟩
theorem e_X7_hasCrampedPost_1 : kk_d cX7_hasCrampedPost 1 (.istore_n 2) 1 2 := ⟨by decide +kernel, rfl⟩
theorem e_X7_hasCrampedPost_2 : kk_d cX7_hasCrampedPost 2 (.iload_n 2) 1 3 := ⟨by decide +kernel, rfl⟩
theorem e_X7_hasCrampedPost_3 : kk_d cX7_hasCrampedPost 3 (.aload_n 0) 1 4 := ⟨by decide +kernel, rfl⟩
theorem e_X7_hasCrampedPost_4 : kk_d cX7_hasCrampedPost 4 (.getfield 35) 3 7 := ⟨by decide +kernel, rfl⟩
theorem e_X7_hasCrampedPost_7 : kk_d cX7_hasCrampedPost 7 (.getfield 119) 3 10 := ⟨by decide +kernel, rfl⟩
theorem e_X7_hasCrampedPost_10 : kk_dj cX7_hasCrampedPost 10 (.if_icmp .ge 66) 3 (66) 13 76 := ⟨by decide +kernel, rfl, by decide⟩
theorem e_X7_hasCrampedPost_76 : kk_d cX7_hasCrampedPost 76 (.iconst 0) 1 77 := ⟨by decide +kernel, rfl⟩
theorem e_X7_hasCrampedPost_77 : kk_d cX7_hasCrampedPost 77 .ireturn 1 78 := ⟨by decide +kernel, rfl⟩
theorem e_X7_hasCrampedPost_13 : kk_d cX7_hasCrampedPost 13 (.iload_n 1) 1 14 := ⟨by decide +kernel, rfl⟩
theorem e_X7_hasCrampedPost_14 : kk_d cX7_hasCrampedPost 14 (.aload_n 0) 1 15 := ⟨by decide +kernel, rfl⟩
theorem e_X7_hasCrampedPost_15 : kk_d cX7_hasCrampedPost 15 (.getfield 35) 3 18 := ⟨by decide +kernel, rfl⟩
theorem e_X7_hasCrampedPost_18 : kk_d cX7_hasCrampedPost 18 (.getfield 122) 3 21 := ⟨by decide +kernel, rfl⟩
theorem e_X7_hasCrampedPost_21 : kk_d cX7_hasCrampedPost 21 (.iload_n 2) 1 22 := ⟨by decide +kernel, rfl⟩
theorem e_X7_hasCrampedPost_22 : kk_d cX7_hasCrampedPost 22 .iaload 1 23 := ⟨by decide +kernel, rfl⟩
theorem e_X7_hasCrampedPost_23 : kk_d cX7_hasCrampedPost 23 .iand 1 24 := ⟨by decide +kernel, rfl⟩
theorem e_X7_hasCrampedPost_24 : kk_d cX7_hasCrampedPost 24 (.istore_n 3) 1 25 := ⟨by decide +kernel, rfl⟩
theorem e_X7_hasCrampedPost_25 : kk_d cX7_hasCrampedPost 25 (.iconst 0) 1 26 := ⟨by decide +kernel, rfl⟩
theorem e_X7_hasCrampedPost_26 : kk_d cX7_hasCrampedPost 26 (.istore 4) 2 28 := ⟨by decide +kernel, rfl⟩
theorem e_X7_hasCrampedPost_28 : kk_d cX7_hasCrampedPost 28 (.iconst 0) 1 29 := ⟨by decide +kernel, rfl⟩
theorem e_X7_hasCrampedPost_29 : kk_d cX7_hasCrampedPost 29 (.istore 5) 2 31 := ⟨by decide +kernel, rfl⟩
theorem e_X7_hasCrampedPost_31 : kk_d cX7_hasCrampedPost 31 (.iload 5) 2 33 := ⟨by decide +kernel, rfl⟩
theorem e_X7_hasCrampedPost_33 : kk_d cX7_hasCrampedPost 33 (.bipush 9) 2 35 := ⟨by decide +kernel, rfl⟩
theorem e_X7_hasCrampedPost_35 : kk_dj cX7_hasCrampedPost 35 (.if_icmp .ge 24) 3 (24) 38 59 := ⟨by decide +kernel, rfl, by decide⟩
theorem e_X7_hasCrampedPost_59 : kk_d cX7_hasCrampedPost 59 (.iload 4) 2 61 := ⟨by decide +kernel, rfl⟩
theorem e_X7_hasCrampedPost_61 : kk_d cX7_hasCrampedPost 61 (.iload_n 3) 1 62 := ⟨by decide +kernel, rfl⟩
theorem e_X7_hasCrampedPost_62 : kk_d cX7_hasCrampedPost 62 (.invokestatic 108) 3 65 := ⟨by decide +kernel, rfl⟩
theorem e_X7_hasCrampedPost_65 : kk_dj cX7_hasCrampedPost 65 (.if_icmp .ge 5) 3 (5) 68 70 := ⟨by decide +kernel, rfl, by decide⟩
theorem e_X7_hasCrampedPost_70 : kk_d cX7_hasCrampedPost 70 (.iinc 2 1) 3 73 := ⟨by decide +kernel, rfl⟩
theorem e_X7_hasCrampedPost_73 : kk_dj cX7_hasCrampedPost 73 (.goto (-71)) 3 (-71) 76 2 := ⟨by decide +kernel, rfl, by decide⟩
theorem e_X7_hasCrampedPost_68 : kk_d cX7_hasCrampedPost 68 (.iconst 1) 1 69 := ⟨by decide +kernel, rfl⟩
theorem e_X7_hasCrampedPost_69 : kk_d cX7_hasCrampedPost 69 .ireturn 1 70 := ⟨by decide +kernel, rfl⟩
theorem e_X7_hasCrampedPost_38 : kk_d cX7_hasCrampedPost 38 (.aload_n 0) 1 39 := ⟨by decide +kernel, rfl⟩
theorem e_X7_hasCrampedPost_39 : kk_d cX7_hasCrampedPost 39 (.getfield 9) 3 42 := ⟨by decide +kernel, rfl⟩
theorem e_X7_hasCrampedPost_42 : kk_d cX7_hasCrampedPost 42 (.iload 5) 2 44 := ⟨by decide +kernel, rfl⟩
theorem e_X7_hasCrampedPost_44 : kk_d cX7_hasCrampedPost 44 .iaload 1 45 := ⟨by decide +kernel, rfl⟩
theorem e_X7_hasCrampedPost_45 : kk_d cX7_hasCrampedPost 45 (.iload_n 3) 1 46 := ⟨by decide +kernel, rfl⟩
theorem e_X7_hasCrampedPost_46 : kk_d cX7_hasCrampedPost 46 .iand 1 47 := ⟨by decide +kernel, rfl⟩
theorem e_X7_hasCrampedPost_47 : kk_dj cX7_hasCrampedPost 47 (.ifCond .eq 6) 3 (6) 50 53 := ⟨by decide +kernel, rfl, by decide⟩
theorem e_X7_hasCrampedPost_53 : kk_d cX7_hasCrampedPost 53 (.iinc 5 1) 3 56 := ⟨by decide +kernel, rfl⟩
theorem e_X7_hasCrampedPost_56 : kk_dj cX7_hasCrampedPost 56 (.goto (-25)) 3 (-25) 59 31 := ⟨by decide +kernel, rfl, by decide⟩
theorem e_X7_hasCrampedPost_50 : kk_d cX7_hasCrampedPost 50 (.iinc 4 1) 3 53 := ⟨by decide +kernel, rfl⟩
set_option maxRecDepth 4000 in
theorem s_X7_hasCrampedPost (Z : kk_Z) (v1 : Int32) (σ : kk_St) (Q : Int32 → Prop) (h : f_X7_hasCrampedPost v1 σ Q) : kk_M Z sh_C yX7_hasCrampedPost cX7_hasCrampedPost 6 (some .boolean) (kk_R 3) [.ref (Z.2.1 7), .int v1] σ (kk_Qi Z sh_C (fun r σ' => σ' = σ ∧ Q r)) := by
  unfold f_X7_hasCrampedPost at h
  refine kk_met (own := RX7) (by decide) rfl (Nat.le_of_ble_eq_true rfl) rfl ?_
  refine kk_iconst ic_0 e_X7_hasCrampedPost_0 ?_
  refine kk_istore_n (lv' := [(2, .int (0 : Int32)), (0, .ref (Z.2.1 7)), (1, .int v1)]) e_X7_hasCrampedPost_1 rfl (by decide) rfl ?_
  refine kk_sub [1, 2, 0] rfl ?_
  refine kk_lpW1 (P := fun (v2_1 : Int32) => KK Z sh_C RX7 cX7_hasCrampedPost 6 (some .boolean) (kk_R 3) (kk_Qi Z sh_C (fun r σ' => σ' = σ ∧ Q r)) 2 [(0, .ref (Z.2.1 7)), (1, .int v1), (2, .int v2_1)] [] σ) ?_ h
  intro rec_2 hrec_2 v2_1 h
  refine kk_iload_n 2 rfl e_X7_hasCrampedPost_2 ?_
  refine kk_aload_n 0 rfl e_X7_hasCrampedPost_3 ?_
  refine kk_getr e_X7_hasCrampedPost_4 fl_X7_35 rfl rfl ?_
  refine kk_geti e_X7_hasCrampedPost_7 fl_X7_119 rfl rfl ?_
  refine kk_icmp_ge e_X7_hasCrampedPost_10 (fun c_12 => ?_) (fun c_12 => ?_)
  · replace h := h.1 c_12
    refine kk_iconst ic_0 e_X7_hasCrampedPost_76 ?_
    exact kk_zret e_X7_hasCrampedPost_77 (Or.inl rfl) ⟨rfl, h⟩
  · replace h := h.2 c_12
    refine kk_iload_n 1 rfl e_X7_hasCrampedPost_13 ?_
    refine kk_aload_n 0 rfl e_X7_hasCrampedPost_14 ?_
    refine kk_getr e_X7_hasCrampedPost_15 fl_X7_35 rfl rfl ?_
    refine kk_getr e_X7_hasCrampedPost_18 fl_X7_122 rfl rfl ?_
    refine kk_iload_n 2 rfl e_X7_hasCrampedPost_21 ?_
    refine kk_iald e_X7_hasCrampedPost_22 rfl h.1 ?_
    replace h := h.2
    refine kk_iand e_X7_hasCrampedPost_23 ?_
    refine kk_istore_n (lv' := [(3, .int (v1 &&& (kk_rd σ 14 v2_1))), (0, .ref (Z.2.1 7)), (1, .int v1), (2, .int v2_1)]) e_X7_hasCrampedPost_24 rfl (by decide) rfl ?_
    refine kk_iconst ic_0 e_X7_hasCrampedPost_25 ?_
    refine kk_istore (lv' := [(4, .int (0 : Int32)), (3, .int (v1 &&& (kk_rd σ 14 v2_1))), (0, .ref (Z.2.1 7)), (1, .int v1), (2, .int v2_1)]) e_X7_hasCrampedPost_26 (by decide) rfl ?_
    refine kk_iconst ic_0 e_X7_hasCrampedPost_28 ?_
    refine kk_istore (lv' := [(5, .int (0 : Int32)), (4, .int (0 : Int32)), (3, .int (v1 &&& (kk_rd σ 14 v2_1))), (0, .ref (Z.2.1 7)), (1, .int v1), (2, .int v2_1)]) e_X7_hasCrampedPost_29 (by decide) rfl ?_
    refine kk_sub [3, 4, 5, 2, 1, 0] rfl ?_
    refine kk_lpW2 (P := fun (v4_3 : Int32) (v5_4 : Int32) => KK Z sh_C RX7 cX7_hasCrampedPost 6 (some .boolean) (kk_R 3) (kk_Qi Z sh_C (fun r σ' => σ' = σ ∧ Q r)) 31 [(0, .ref (Z.2.1 7)), (1, .int v1), (2, .int v2_1), (3, .int (v1 &&& (kk_rd σ 14 v2_1))), (4, .int v4_3), (5, .int v5_4)] [] σ) ?_ h
    intro rec_5 hrec_5 v4_3 v5_4 h
    refine kk_iload 5 rfl e_X7_hasCrampedPost_31 ?_
    refine kk_bipush bp_9 e_X7_hasCrampedPost_33 ?_
    refine kk_icmp_ge e_X7_hasCrampedPost_35 (fun c_11 => ?_) (fun c_11 => ?_)
    · replace h := h.1 c_11
      refine kk_iload 4 rfl e_X7_hasCrampedPost_59 ?_
      refine kk_iload_n 3 rfl e_X7_hasCrampedPost_61 ?_
      refine kk_callSip (As := [.int (v1 &&& (kk_rd σ 14 v2_1))]) (rest := [.int v4_3]) e_X7_hasCrampedPost_62 ml_X7_108 rfl (kk_fitR (by decide) (by decide)) (Nat.le_of_ble_eq_true rfl) rfl (s_J6_bitCount_0f7a4 Z (v1 &&& (kk_rd σ 14 v2_1)) σ _ h) (fun r_6 h => ?_)
      refine kk_icmp_ge e_X7_hasCrampedPost_65 (fun c_7 => ?_) (fun c_7 => ?_)
      · replace h := h.1 c_7
        refine kk_iinc (lv' := [(2, .int (v2_1 + (1 : Int32))), (0, .ref (Z.2.1 7)), (1, .int v1), (3, .int (v1 &&& (kk_rd σ 14 v2_1))), (4, .int v4_3), (5, .int v5_4)]) e_X7_hasCrampedPost_70 (j := 2) rfl (ii_1 v2_1) (by decide) rfl ?_
        refine kk_goto e_X7_hasCrampedPost_73 ?_
        exact kk_sub [1, 2, 0] rfl (hrec_2 (v2_1 + (1 : Int32)) h)
      · replace h := h.2 c_7
        refine kk_iconst ic_1 e_X7_hasCrampedPost_68 ?_
        exact kk_zret e_X7_hasCrampedPost_69 (Or.inr rfl) ⟨rfl, h⟩
    · replace h := h.2 c_11
      refine kk_aload_n 0 rfl e_X7_hasCrampedPost_38 ?_
      refine kk_getr e_X7_hasCrampedPost_39 fl_X7_9 rfl rfl ?_
      refine kk_iload 5 rfl e_X7_hasCrampedPost_42 ?_
      refine kk_iald e_X7_hasCrampedPost_44 rfl h.1 ?_
      replace h := h.2
      refine kk_iload_n 3 rfl e_X7_hasCrampedPost_45 ?_
      refine kk_iand e_X7_hasCrampedPost_46 ?_
      refine kk_jW1 (P := fun (v4_8 : Int32) => KK Z sh_C RX7 cX7_hasCrampedPost 6 (some .boolean) (kk_R 3) (kk_Qi Z sh_C (fun r σ' => σ' = σ ∧ Q r)) 53 [(0, .ref (Z.2.1 7)), (1, .int v1), (2, .int v2_1), (3, .int (v1 &&& (kk_rd σ 14 v2_1))), (4, .int v4_8), (5, .int v5_4)] [] σ) h ?_ ?_
      · intro v4_8 h
        refine kk_iinc (lv' := [(5, .int (v5_4 + (1 : Int32))), (0, .ref (Z.2.1 7)), (1, .int v1), (2, .int v2_1), (3, .int (v1 &&& (kk_rd σ 14 v2_1))), (4, .int v4_8)]) e_X7_hasCrampedPost_53 (j := 5) rfl (ii_1 v5_4) (by decide) rfl ?_
        refine kk_goto e_X7_hasCrampedPost_56 ?_
        exact kk_sub [1, 2, 3, 4, 5, 0] rfl (hrec_5 v4_8 (v5_4 + (1 : Int32)) h)
      · intro J_9 hJ_9 h
        refine kk_if_eq e_X7_hasCrampedPost_47 (fun c_10 => ?_) (fun c_10 => ?_)
        · replace h := h.1 c_10
          exact kk_sub [0, 1, 2, 3, 4, 5] rfl (hJ_9 v4_3 h)
        · replace h := h.2 c_10
          refine kk_iinc (lv' := [(4, .int (v4_3 + (1 : Int32))), (0, .ref (Z.2.1 7)), (1, .int v1), (2, .int v2_1), (3, .int (v1 &&& (kk_rd σ 14 v2_1))), (5, .int v5_4)]) e_X7_hasCrampedPost_50 (j := 4) rfl (ii_1 v4_3) (by decide) rfl ?_
          exact kk_sub [1, 2, 3, 4, 0, 5] rfl (hJ_9 (v4_3 + (1 : Int32)) h)
theorem e_X7_roomOfColours_0 : kk_d cX7_roomOfColours 0 (.iconst 0) 1 1 := ⟨by decide +kernel, rfl⟩
theorem e_X7_roomOfColours_1 : kk_d cX7_roomOfColours 1 (.istore_n 2) 1 2 := ⟨by decide +kernel, rfl⟩
theorem e_X7_roomOfColours_2 : kk_d cX7_roomOfColours 2 (.iconst 0) 1 3 := ⟨by decide +kernel, rfl⟩
theorem e_X7_roomOfColours_3 : kk_d cX7_roomOfColours 3 (.istore_n 3) 1 4 := ⟨by decide +kernel, rfl⟩
theorem e_X7_roomOfColours_4 : kk_d cX7_roomOfColours 4 (.iload_n 3) 1 5 := ⟨by decide +kernel, rfl⟩
theorem e_X7_roomOfColours_5 : kk_d cX7_roomOfColours 5 (.bipush 9) 2 7 := ⟨by decide +kernel, rfl⟩
theorem e_X7_roomOfColours_7 : kk_dj cX7_roomOfColours 7 (.if_icmp .ge 32) 3 (32) 10 39 := ⟨by decide +kernel, rfl, by decide⟩
theorem e_X7_roomOfColours_39 : kk_d cX7_roomOfColours 39 (.iload_n 2) 1 40 := ⟨by decide +kernel, rfl⟩
theorem e_X7_roomOfColours_40 : kk_d cX7_roomOfColours 40 .ireturn 1 41 := ⟨by decide +kernel, rfl⟩
theorem e_X7_roomOfColours_10 : kk_d cX7_roomOfColours 10 (.iload_n 2) 1 11 := ⟨by decide +kernel, rfl⟩
theorem e_X7_roomOfColours_11 : kk_d cX7_roomOfColours 11 (.aload_n 0) 1 12 := ⟨by decide +kernel, rfl⟩
theorem e_X7_roomOfColours_12 : kk_d cX7_roomOfColours 12 (.getfield 35) 3 15 := ⟨by decide +kernel, rfl⟩
theorem e_X7_roomOfColours_15 : kk_d cX7_roomOfColours 15 (.aload_n 0) 1 16 := ⟨by decide +kernel, rfl⟩
theorem e_X7_roomOfColours_16 : kk_d cX7_roomOfColours 16 (.getfield 9) 3 19 := ⟨by decide +kernel, rfl⟩
theorem e_X7_roomOfColours_19 : kk_d cX7_roomOfColours 19 (.iload_n 3) 1 20 := ⟨by decide +kernel, rfl⟩
theorem e_X7_roomOfColours_20 : kk_d cX7_roomOfColours 20 .iaload 1 21 := ⟨by decide +kernel, rfl⟩
theorem e_X7_roomOfColours_21 : kk_d cX7_roomOfColours 21 (.iload_n 1) 1 22 := ⟨by decide +kernel, rfl⟩
theorem e_X7_roomOfColours_22 : kk_d cX7_roomOfColours 22 .iand 1 23 := ⟨by decide +kernel, rfl⟩
theorem e_X7_roomOfColours_23 : kk_d cX7_roomOfColours 23 (.invokevirtual 116) 3 26 := ⟨by decide +kernel, rfl⟩
theorem e_X7_roomOfColours_26 : kk_d cX7_roomOfColours 26 (.invokestatic 108) 3 29 := ⟨by decide +kernel, rfl⟩
theorem e_X7_roomOfColours_29 : kk_d cX7_roomOfColours 29 (.iconst 2) 1 30 := ⟨by decide +kernel, rfl⟩
theorem e_X7_roomOfColours_30 : kk_d cX7_roomOfColours 30 .idiv 1 31 := ⟨by decide +kernel, rfl⟩
theorem e_X7_roomOfColours_31 : kk_d cX7_roomOfColours 31 .iadd 1 32 := ⟨by decide +kernel, rfl⟩
theorem e_X7_roomOfColours_32 : kk_d cX7_roomOfColours 32 (.istore_n 2) 1 33 := ⟨by decide +kernel, rfl⟩
theorem e_X7_roomOfColours_33 : kk_d cX7_roomOfColours 33 (.iinc 3 1) 3 36 := ⟨by decide +kernel, rfl⟩
theorem e_X7_roomOfColours_36 : kk_dj cX7_roomOfColours 36 (.goto (-32)) 3 (-32) 39 4 := ⟨by decide +kernel, rfl, by decide⟩
set_option maxRecDepth 4000 in
theorem s_X7_roomOfColours (Z : kk_Z) (v1 : Int32) (σ : kk_St) (Q : Int32 → Prop) (h : f_X7_roomOfColours v1 σ Q) : kk_M Z sh_C yX7_roomOfColours cX7_roomOfColours 4 (some .int) (kk_R 3) [.ref (Z.2.1 7), .int v1] σ (kk_Qi Z sh_C (fun r σ' => σ' = σ ∧ Q r)) := by
  unfold f_X7_roomOfColours at h
  refine kk_met (own := RX7) (by decide) rfl (Nat.le_of_ble_eq_true rfl) rfl ?_
  refine kk_iconst ic_0 e_X7_roomOfColours_0 ?_
  refine kk_istore_n (lv' := [(2, .int (0 : Int32)), (0, .ref (Z.2.1 7)), (1, .int v1)]) e_X7_roomOfColours_1 rfl (by decide) rfl ?_
  refine kk_iconst ic_0 e_X7_roomOfColours_2 ?_
  refine kk_istore_n (lv' := [(3, .int (0 : Int32)), (2, .int (0 : Int32)), (0, .ref (Z.2.1 7)), (1, .int v1)]) e_X7_roomOfColours_3 rfl (by decide) rfl ?_
  refine kk_sub [2, 3, 1, 0] rfl ?_
  refine kk_lpW2 (P := fun (v2_1 : Int32) (v3_2 : Int32) => KK Z sh_C RX7 cX7_roomOfColours 4 (some .int) (kk_R 3) (kk_Qi Z sh_C (fun r σ' => σ' = σ ∧ Q r)) 4 [(0, .ref (Z.2.1 7)), (1, .int v1), (2, .int v2_1), (3, .int v3_2)] [] σ) ?_ h
  intro rec_3 hrec_3 v2_1 v3_2 h
  refine kk_iload_n 3 rfl e_X7_roomOfColours_4 ?_
  refine kk_bipush bp_9 e_X7_roomOfColours_5 ?_
  refine kk_icmp_ge e_X7_roomOfColours_7 (fun c_7 => ?_) (fun c_7 => ?_)
  · replace h := h.1 c_7
    refine kk_iload_n 2 rfl e_X7_roomOfColours_39 ?_
    exact kk_iret e_X7_roomOfColours_40 ⟨rfl, h⟩
  · replace h := h.2 c_7
    refine kk_iload_n 2 rfl e_X7_roomOfColours_10 ?_
    refine kk_aload_n 0 rfl e_X7_roomOfColours_11 ?_
    refine kk_getr e_X7_roomOfColours_12 fl_X7_35 rfl rfl ?_
    refine kk_aload_n 0 rfl e_X7_roomOfColours_15 ?_
    refine kk_getr e_X7_roomOfColours_16 fl_X7_9 rfl rfl ?_
    refine kk_iload_n 3 rfl e_X7_roomOfColours_19 ?_
    refine kk_iald e_X7_roomOfColours_20 rfl h.1 ?_
    replace h := h.2
    refine kk_iload_n 1 rfl e_X7_roomOfColours_21 ?_
    refine kk_iand e_X7_roomOfColours_22 ?_
    refine kk_callVip (As := [.int ((kk_rd σ 20 v3_2) &&& v1)]) (rest := [.int v2_1]) e_X7_roomOfColours_23 ml_X7_116 ⟨_, _, _, _, rfl, rfl⟩ rfl (kk_fitR (by decide) (by decide)) (Nat.le_of_ble_eq_true rfl) rfl (s_X6_postsOf Z ((kk_rd σ 20 v3_2) &&& v1) σ _ h) (fun r_4 h => ?_)
    refine kk_callSip (As := [.int r_4]) (rest := [.int v2_1]) e_X7_roomOfColours_26 ml_X7_108 rfl (kk_fitR (by decide) (by decide)) (Nat.le_of_ble_eq_true rfl) rfl (s_J6_bitCount_0f7a4 Z r_4 σ _ h) (fun r_5 h => ?_)
    refine kk_iconst ic_2 e_X7_roomOfColours_29 ?_
    refine kk_idiv nz_2 e_X7_roomOfColours_30 ?_
    refine kk_iadd e_X7_roomOfColours_31 ?_
    refine kk_topi (fun v2_6 ev2_6 => ?_)
    replace h := h v2_6 ev2_6
    refine kk_istore_n (lv' := [(2, .int v2_6), (0, .ref (Z.2.1 7)), (1, .int v1), (3, .int v3_2)]) e_X7_roomOfColours_32 rfl (by decide) rfl ?_
    refine kk_iinc (lv' := [(3, .int (v3_2 + (1 : Int32))), (2, .int v2_6), (0, .ref (Z.2.1 7)), (1, .int v1)]) e_X7_roomOfColours_33 (j := 3) rfl (ii_1 v3_2) (by decide) rfl ?_
    refine kk_goto e_X7_roomOfColours_36 ?_
    exact kk_sub [2, 3, 1, 0] rfl (hrec_3 v2_6 (v3_2 + (1 : Int32)) h)
theorem e_X7_isHopeless_0 : kk_d cX7_isHopeless 0 (.aload_n 0) 1 1 := ⟨by decide +kernel, rfl⟩
theorem e_X7_isHopeless_1 : kk_d cX7_isHopeless 1 (.iload_n 1) 1 2 := ⟨by decide +kernel, rfl⟩
theorem e_X7_isHopeless_2 : kk_d cX7_isHopeless 2 (.invokevirtual 105) 3 5 := ⟨by decide +kernel, rfl⟩
theorem e_X7_isHopeless_5 : kk_d cX7_isHopeless 5 (.iload_n 1) 1 6 := ⟨by decide +kernel, rfl⟩
theorem e_X7_isHopeless_6 : kk_d cX7_isHopeless 6 (.invokestatic 108) 3 9 := ⟨by decide +kernel, rfl⟩
theorem e_X7_isHopeless_9 : kk_dj cX7_isHopeless 9 (.if_icmp .lt 11) 3 (11) 12 20 := ⟨by decide +kernel, rfl, by decide⟩
theorem e_X7_isHopeless_25 : kk_d cX7_isHopeless 25 .ireturn 1 26 := ⟨by decide +kernel, rfl⟩
theorem e_X7_isHopeless_20 : kk_d cX7_isHopeless 20 (.iconst 1) 1 21 := ⟨by decide +kernel, rfl⟩
theorem e_X7_isHopeless_21 : kk_dj cX7_isHopeless 21 (.goto 4) 3 (4) 24 25 := ⟨by decide +kernel, rfl, by decide⟩
theorem e_X7_isHopeless_12 : kk_d cX7_isHopeless 12 (.aload_n 0) 1 13 := ⟨by decide +kernel, rfl⟩
theorem e_X7_isHopeless_13 : kk_d cX7_isHopeless 13 (.iload_n 1) 1 14 := ⟨by decide +kernel, rfl⟩
theorem e_X7_isHopeless_14 : kk_d cX7_isHopeless 14 (.invokevirtual 113) 3 17 := ⟨by decide +kernel, rfl⟩
theorem e_X7_isHopeless_17 : kk_dj cX7_isHopeless 17 (.ifCond .eq 7) 3 (7) 20 24 := ⟨by decide +kernel, rfl, by decide⟩
theorem e_X7_isHopeless_24 : kk_d cX7_isHopeless 24 (.iconst 0) 1 25 := ⟨by decide +kernel, rfl⟩
set_option maxRecDepth 4000 in
theorem s_X7_isHopeless (Z : kk_Z) (v1 : Int32) (σ : kk_St) (Q : Int32 → Prop) (h : f_X7_isHopeless v1 σ Q) : kk_M Z sh_C yX7_isHopeless cX7_isHopeless 2 (some .boolean) (kk_R 4) [.ref (Z.2.1 7), .int v1] σ (kk_Qi Z sh_C (fun r σ' => σ' = σ ∧ Q r)) := by
  unfold f_X7_isHopeless at h
  refine kk_met (own := RX7) (by decide) rfl (Nat.le_of_ble_eq_true rfl) rfl ?_
  refine kk_aload_n 0 rfl e_X7_isHopeless_0 ?_
  refine kk_iload_n 1 rfl e_X7_isHopeless_1 ?_
  refine kk_callVip (As := [.int v1]) (rest := []) e_X7_isHopeless_2 ml_X7_105 ⟨_, _, _, _, rfl, rfl⟩ rfl (kk_fitR (by decide) (by decide)) (Nat.le_of_ble_eq_true rfl) rfl (s_X7_roomOfColours Z v1 σ _ h) (fun r_1 h => ?_)
  refine kk_iload_n 1 rfl e_X7_isHopeless_5 ?_
  refine kk_callSip (As := [.int v1]) (rest := [.int r_1]) e_X7_isHopeless_6 ml_X7_108 rfl (kk_fitR (by decide) (by decide)) (Nat.le_of_ble_eq_true rfl) rfl (s_J6_bitCount_0f7a4 Z v1 σ _ h) (fun r_2 h => ?_)
  refine kk_jW1 (P := fun (t_3 : Int32) => KK Z sh_C RX7 cX7_isHopeless 2 (some .boolean) (kk_R 4) (kk_Qi Z sh_C (fun r σ' => σ' = σ ∧ Q r)) 25 [] [.int t_3] σ) h ?_ ?_
  · intro t_3 h
    exact kk_zret e_X7_isHopeless_25 h.1 ⟨rfl, h.2⟩
  · intro J_4 hJ_4 h
    refine kk_jW0 (P := KK Z sh_C RX7 cX7_isHopeless 2 (some .boolean) (kk_R 4) (kk_Qi Z sh_C (fun r σ' => σ' = σ ∧ Q r)) 20 [] [] σ) h ?_ ?_
    · intro h
      refine kk_iconst ic_1 e_X7_isHopeless_20 ?_
      refine kk_goto e_X7_isHopeless_21 ?_
      exact kk_sub [] rfl (hJ_4 (1 : Int32) h)
    · intro J_5 hJ_5 h
      refine kk_icmp_lt e_X7_isHopeless_9 (fun c_8 => ?_) (fun c_8 => ?_)
      · replace h := h.1 c_8
        exact kk_sub [] rfl (hJ_5 h)
      · replace h := h.2 c_8
        refine kk_aload_n 0 rfl e_X7_isHopeless_12 ?_
        refine kk_iload_n 1 rfl e_X7_isHopeless_13 ?_
        refine kk_callVip (As := [.int v1]) (rest := []) e_X7_isHopeless_14 ml_X7_113 ⟨_, _, _, _, rfl, rfl⟩ rfl (kk_fitR (by decide) (by decide)) (Nat.le_of_ble_eq_true rfl) rfl (s_X7_hasCrampedPost Z v1 σ _ h) (fun r_6 h => ?_)
        refine kk_if_eq e_X7_isHopeless_17 (fun c_7 => ?_) (fun c_7 => ?_)
        · replace h := h.1 c_7
          refine kk_iconst ic_0 e_X7_isHopeless_24 ?_
          exact kk_sub [] rfl (hJ_4 (0 : Int32) h)
        · replace h := h.2 c_7
          exact kk_sub [] rfl (hJ_5 h)
theorem e_X7_tightest_0 : kk_d cX7_tightest 0 (.iconst (-1)) 1 1 := ⟨by decide +kernel, rfl⟩
theorem e_X7_tightest_1 : kk_d cX7_tightest 1 (.istore_n 2) 1 2 := ⟨by decide +kernel, rfl⟩
theorem e_X7_tightest_2 : kk_d cX7_tightest 2 (.bipush 10) 2 4 := ⟨by decide +kernel, rfl⟩
theorem e_X7_tightest_4 : kk_d cX7_tightest 4 (.istore_n 3) 1 5 := ⟨by decide +kernel, rfl⟩
theorem e_X7_tightest_5 : kk_d cX7_tightest 5 (.iconst 0) 1 6 := ⟨by decide +kernel, rfl⟩
theorem e_X7_tightest_6 : kk_d cX7_tightest 6 (.istore 4) 2 8 := ⟨by decide +kernel, rfl⟩
theorem e_X7_tightest_8 : kk_d cX7_tightest 8 (.iload 4) 2 10 := ⟨by decide +kernel, rfl⟩
theorem e_X7_tightest_10 : kk_d cX7_tightest 10 (.aload_n 0) 1 11 := ⟨by decide +kernel, rfl⟩
theorem e_X7_tightest_11 : kk_d cX7_tightest 11 (.getfield 35) 3 14 := ⟨by decide +kernel, rfl⟩
theorem e_X7_tightest_14 : kk_d cX7_tightest 14 (.getfield 55) 3 17 := ⟨by decide +kernel, rfl⟩
theorem e_X7_tightest_17 : kk_dj cX7_tightest 17 (.if_icmp .ge 66) 3 (66) 20 83 := ⟨by decide +kernel, rfl, by decide⟩
theorem e_X7_tightest_83 : kk_d cX7_tightest 83 (.iload_n 3) 1 84 := ⟨by decide +kernel, rfl⟩
theorem e_X7_tightest_84 : kk_dj cX7_tightest 84 (.ifCond .ne 7) 3 (7) 87 91 := ⟨by decide +kernel, rfl, by decide⟩
theorem e_X7_tightest_92 : kk_d cX7_tightest 92 .ireturn 1 93 := ⟨by decide +kernel, rfl⟩
theorem e_X7_tightest_91 : kk_d cX7_tightest 91 (.iload_n 2) 1 92 := ⟨by decide +kernel, rfl⟩
theorem e_X7_tightest_87 : kk_d cX7_tightest 87 (.iconst (-1)) 1 88 := ⟨by decide +kernel, rfl⟩
theorem e_X7_tightest_88 : kk_dj cX7_tightest 88 (.goto 4) 3 (4) 91 92 := ⟨by decide +kernel, rfl, by decide⟩
theorem e_X7_tightest_20 : kk_d cX7_tightest 20 (.iload_n 1) 1 21 := ⟨by decide +kernel, rfl⟩
theorem e_X7_tightest_21 : kk_d cX7_tightest 21 (.iload 4) 2 23 := ⟨by decide +kernel, rfl⟩
theorem e_X7_tightest_23 : kk_d cX7_tightest 23 .ishr 1 24 := ⟨by decide +kernel, rfl⟩
theorem e_X7_tightest_24 : kk_d cX7_tightest 24 (.iconst 1) 1 25 := ⟨by decide +kernel, rfl⟩
theorem e_X7_tightest_25 : kk_d cX7_tightest 25 .iand 1 26 := ⟨by decide +kernel, rfl⟩
theorem e_X7_tightest_26 : kk_dj cX7_tightest 26 (.ifCond .eq 51) 3 (51) 29 77 := ⟨by decide +kernel, rfl, by decide⟩
theorem e_X7_tightest_77 : kk_d cX7_tightest 77 (.iinc 4 1) 3 80 := ⟨by decide +kernel, rfl⟩
theorem e_X7_tightest_80 : kk_dj cX7_tightest 80 (.goto (-72)) 3 (-72) 83 8 := ⟨by decide +kernel, rfl, by decide⟩
theorem e_X7_tightest_29 : kk_d cX7_tightest 29 (.iconst 0) 1 30 := ⟨by decide +kernel, rfl⟩
theorem e_X7_tightest_30 : kk_d cX7_tightest 30 (.istore 5) 2 32 := ⟨by decide +kernel, rfl⟩
theorem e_X7_tightest_32 : kk_d cX7_tightest 32 (.iconst 0) 1 33 := ⟨by decide +kernel, rfl⟩
theorem e_X7_tightest_33 : kk_d cX7_tightest 33 (.istore 6) 2 35 := ⟨by decide +kernel, rfl⟩
theorem e_X7_tightest_35 : kk_d cX7_tightest 35 (.iload 6) 2 37 := ⟨by decide +kernel, rfl⟩
theorem e_X7_tightest_37 : kk_d cX7_tightest 37 (.bipush 9) 2 39 := ⟨by decide +kernel, rfl⟩
theorem e_X7_tightest_39 : kk_dj cX7_tightest 39 (.if_icmp .ge 26) 3 (26) 42 65 := ⟨by decide +kernel, rfl, by decide⟩
theorem e_X7_tightest_65 : kk_d cX7_tightest 65 (.iload 5) 2 67 := ⟨by decide +kernel, rfl⟩
theorem e_X7_tightest_67 : kk_d cX7_tightest 67 (.iload_n 3) 1 68 := ⟨by decide +kernel, rfl⟩
theorem e_X7_tightest_68 : kk_dj cX7_tightest 68 (.if_icmp .ge 9) 3 (9) 71 77 := ⟨by decide +kernel, rfl, by decide⟩
theorem e_X7_tightest_71 : kk_d cX7_tightest 71 (.iload 5) 2 73 := ⟨by decide +kernel, rfl⟩
theorem e_X7_tightest_73 : kk_d cX7_tightest 73 (.istore_n 3) 1 74 := ⟨by decide +kernel, rfl⟩
theorem e_X7_tightest_74 : kk_d cX7_tightest 74 (.iload 4) 2 76 := ⟨by decide +kernel, rfl⟩
theorem e_X7_tightest_76 : kk_d cX7_tightest 76 (.istore_n 2) 1 77 := ⟨by decide +kernel, rfl⟩
theorem e_X7_tightest_42 : kk_d cX7_tightest 42 (.iload 5) 2 44 := ⟨by decide +kernel, rfl⟩
theorem e_X7_tightest_44 : kk_d cX7_tightest 44 (.aload_n 0) 1 45 := ⟨by decide +kernel, rfl⟩
theorem e_X7_tightest_45 : kk_d cX7_tightest 45 (.getfield 9) 3 48 := ⟨by decide +kernel, rfl⟩
theorem e_X7_tightest_48 : kk_d cX7_tightest 48 (.iload 6) 2 50 := ⟨by decide +kernel, rfl⟩
theorem e_X7_tightest_50 : kk_d cX7_tightest 50 .iaload 1 51 := ⟨by decide +kernel, rfl⟩
theorem e_X7_tightest_51 : kk_d cX7_tightest 51 (.iload 4) 2 53 := ⟨by decide +kernel, rfl⟩
theorem e_X7_tightest_53 : kk_d cX7_tightest 53 .ishr 1 54 := ⟨by decide +kernel, rfl⟩
theorem e_X7_tightest_54 : kk_d cX7_tightest 54 (.iconst 1) 1 55 := ⟨by decide +kernel, rfl⟩
theorem e_X7_tightest_55 : kk_d cX7_tightest 55 .iand 1 56 := ⟨by decide +kernel, rfl⟩
theorem e_X7_tightest_56 : kk_d cX7_tightest 56 .iadd 1 57 := ⟨by decide +kernel, rfl⟩
theorem e_X7_tightest_57 : kk_d cX7_tightest 57 (.istore 5) 2 59 := ⟨by decide +kernel, rfl⟩
theorem e_X7_tightest_59 : kk_d cX7_tightest 59 (.iinc 6 1) 3 62 := ⟨by decide +kernel, rfl⟩
theorem e_X7_tightest_62 : kk_dj cX7_tightest 62 (.goto (-27)) 3 (-27) 65 35 := ⟨by decide +kernel, rfl, by decide⟩
set_option maxRecDepth 4000 in
theorem s_X7_tightest (Z : kk_Z) (v1 : Int32) (σ : kk_St) (Q : Int32 → Prop) (h : f_X7_tightest v1 σ Q) : kk_M Z sh_C yX7_tightest cX7_tightest 7 (some .int) (kk_R 2) [.ref (Z.2.1 7), .int v1] σ (kk_Qi Z sh_C (fun r σ' => σ' = σ ∧ Q r)) := by
  unfold f_X7_tightest at h
  refine kk_met (own := RX7) (by decide) rfl (Nat.le_of_ble_eq_true rfl) rfl ?_
  refine kk_iconst ic_m1 e_X7_tightest_0 ?_
  refine kk_istore_n (lv' := [(2, .int (-1 : Int32)), (0, .ref (Z.2.1 7)), (1, .int v1)]) e_X7_tightest_1 rfl (by decide) rfl ?_
  refine kk_bipush bp_10 e_X7_tightest_2 ?_
  refine kk_istore_n (lv' := [(3, .int (10 : Int32)), (2, .int (-1 : Int32)), (0, .ref (Z.2.1 7)), (1, .int v1)]) e_X7_tightest_4 rfl (by decide) rfl ?_
  refine kk_iconst ic_0 e_X7_tightest_5 ?_
  refine kk_istore (lv' := [(4, .int (0 : Int32)), (3, .int (10 : Int32)), (2, .int (-1 : Int32)), (0, .ref (Z.2.1 7)), (1, .int v1)]) e_X7_tightest_6 (by decide) rfl ?_
  refine kk_sub [3, 4, 2, 1, 0] rfl ?_
  refine kk_lpW3 (P := fun (v2_1 : Int32) (v3_2 : Int32) (v4_3 : Int32) => KK Z sh_C RX7 cX7_tightest 7 (some .int) (kk_R 2) (kk_Qi Z sh_C (fun r σ' => σ' = σ ∧ Q r)) 8 [(0, .ref (Z.2.1 7)), (1, .int v1), (2, .int v2_1), (3, .int v3_2), (4, .int v4_3)] [] σ) ?_ h
  intro rec_4 hrec_4 v2_1 v3_2 v4_3 h
  refine kk_iload 4 rfl e_X7_tightest_8 ?_
  refine kk_aload_n 0 rfl e_X7_tightest_10 ?_
  refine kk_getr e_X7_tightest_11 fl_X7_35 rfl rfl ?_
  refine kk_geti e_X7_tightest_14 fl_X7_55 rfl rfl ?_
  refine kk_icmp_ge e_X7_tightest_17 (fun c_18 => ?_) (fun c_18 => ?_)
  · replace h := h.1 c_18
    refine kk_iload_n 3 rfl e_X7_tightest_83 ?_
    refine kk_jW1 (P := fun (t_5 : Int32) => KK Z sh_C RX7 cX7_tightest 7 (some .int) (kk_R 2) (kk_Qi Z sh_C (fun r σ' => σ' = σ ∧ Q r)) 92 [] [.int t_5] σ) h ?_ ?_
    · intro t_5 h
      exact kk_iret e_X7_tightest_92 ⟨rfl, h⟩
    · intro J_6 hJ_6 h
      refine kk_if_ne e_X7_tightest_84 (fun c_7 => ?_) (fun c_7 => ?_)
      · replace h := h.1 c_7
        refine kk_iload_n 2 rfl e_X7_tightest_91 ?_
        exact kk_sub [] rfl (hJ_6 v2_1 h)
      · replace h := h.2 c_7
        refine kk_iconst ic_m1 e_X7_tightest_87 ?_
        refine kk_goto e_X7_tightest_88 ?_
        exact kk_sub [] rfl (hJ_6 (-1 : Int32) h)
  · replace h := h.2 c_18
    refine kk_iload_n 1 rfl e_X7_tightest_20 ?_
    refine kk_iload 4 rfl e_X7_tightest_21 ?_
    refine kk_ishr e_X7_tightest_23 ?_
    refine kk_iconst ic_1 e_X7_tightest_24 ?_
    refine kk_iand e_X7_tightest_25 ?_
    refine kk_jW2 (P := fun (v2_8 : Int32) (v3_9 : Int32) => KK Z sh_C RX7 cX7_tightest 7 (some .int) (kk_R 2) (kk_Qi Z sh_C (fun r σ' => σ' = σ ∧ Q r)) 77 [(0, .ref (Z.2.1 7)), (1, .int v1), (2, .int v2_8), (3, .int v3_9), (4, .int v4_3)] [] σ) h ?_ ?_
    · intro v2_8 v3_9 h
      refine kk_iinc (lv' := [(4, .int (v4_3 + (1 : Int32))), (0, .ref (Z.2.1 7)), (1, .int v1), (2, .int v2_8), (3, .int v3_9)]) e_X7_tightest_77 (j := 4) rfl (ii_1 v4_3) (by decide) rfl ?_
      refine kk_goto e_X7_tightest_80 ?_
      exact kk_sub [1, 2, 3, 4, 0] rfl (hrec_4 v2_8 v3_9 (v4_3 + (1 : Int32)) h)
    · intro J_10 hJ_10 h
      refine kk_if_eq e_X7_tightest_26 (fun c_17 => ?_) (fun c_17 => ?_)
      · replace h := h.1 c_17
        exact kk_sub [0, 1, 2, 3, 4] rfl (hJ_10 v2_1 v3_2 h)
      · replace h := h.2 c_17
        refine kk_iconst ic_0 e_X7_tightest_29 ?_
        refine kk_istore (lv' := [(5, .int (0 : Int32)), (0, .ref (Z.2.1 7)), (1, .int v1), (2, .int v2_1), (3, .int v3_2), (4, .int v4_3)]) e_X7_tightest_30 (by decide) rfl ?_
        refine kk_iconst ic_0 e_X7_tightest_32 ?_
        refine kk_istore (lv' := [(6, .int (0 : Int32)), (5, .int (0 : Int32)), (0, .ref (Z.2.1 7)), (1, .int v1), (2, .int v2_1), (3, .int v3_2), (4, .int v4_3)]) e_X7_tightest_33 (by decide) rfl ?_
        refine kk_sub [2, 3, 4, 5, 6, 1, 0] rfl ?_
        refine kk_lpW2 (P := fun (v5_11 : Int32) (v6_12 : Int32) => KK Z sh_C RX7 cX7_tightest 7 (some .int) (kk_R 2) (kk_Qi Z sh_C (fun r σ' => σ' = σ ∧ Q r)) 35 [(0, .ref (Z.2.1 7)), (1, .int v1), (2, .int v2_1), (3, .int v3_2), (4, .int v4_3), (5, .int v5_11), (6, .int v6_12)] [] σ) ?_ h
        intro rec_13 hrec_13 v5_11 v6_12 h
        refine kk_iload 6 rfl e_X7_tightest_35 ?_
        refine kk_bipush bp_9 e_X7_tightest_37 ?_
        refine kk_icmp_ge e_X7_tightest_39 (fun c_16 => ?_) (fun c_16 => ?_)
        · replace h := h.1 c_16
          refine kk_iload 5 rfl e_X7_tightest_65 ?_
          refine kk_iload_n 3 rfl e_X7_tightest_67 ?_
          refine kk_icmp_ge e_X7_tightest_68 (fun c_14 => ?_) (fun c_14 => ?_)
          · replace h := h.1 c_14
            exact kk_sub [0, 1, 2, 3, 4] rfl (hJ_10 v2_1 v3_2 h)
          · replace h := h.2 c_14
            refine kk_iload 5 rfl e_X7_tightest_71 ?_
            refine kk_istore_n (lv' := [(3, .int v5_11), (0, .ref (Z.2.1 7)), (1, .int v1), (2, .int v2_1), (4, .int v4_3), (5, .int v5_11), (6, .int v6_12)]) e_X7_tightest_73 rfl (by decide) rfl ?_
            refine kk_iload 4 rfl e_X7_tightest_74 ?_
            refine kk_istore_n (lv' := [(2, .int v4_3), (3, .int v5_11), (0, .ref (Z.2.1 7)), (1, .int v1), (4, .int v4_3), (5, .int v5_11), (6, .int v6_12)]) e_X7_tightest_76 rfl (by decide) rfl ?_
            exact kk_sub [2, 3, 0, 1, 4] rfl (hJ_10 v4_3 v5_11 h)
        · replace h := h.2 c_16
          refine kk_iload 5 rfl e_X7_tightest_42 ?_
          refine kk_aload_n 0 rfl e_X7_tightest_44 ?_
          refine kk_getr e_X7_tightest_45 fl_X7_9 rfl rfl ?_
          refine kk_iload 6 rfl e_X7_tightest_48 ?_
          refine kk_iald e_X7_tightest_50 rfl h.1 ?_
          replace h := h.2
          refine kk_iload 4 rfl e_X7_tightest_51 ?_
          refine kk_ishr e_X7_tightest_53 ?_
          refine kk_iconst ic_1 e_X7_tightest_54 ?_
          refine kk_iand e_X7_tightest_55 ?_
          refine kk_iadd e_X7_tightest_56 ?_
          refine kk_topi (fun v5_15 ev5_15 => ?_)
          replace h := h v5_15 ev5_15
          refine kk_istore (lv' := [(5, .int v5_15), (0, .ref (Z.2.1 7)), (1, .int v1), (2, .int v2_1), (3, .int v3_2), (4, .int v4_3), (6, .int v6_12)]) e_X7_tightest_57 (by decide) rfl ?_
          refine kk_iinc (lv' := [(6, .int (v6_12 + (1 : Int32))), (5, .int v5_15), (0, .ref (Z.2.1 7)), (1, .int v1), (2, .int v2_1), (3, .int v3_2), (4, .int v4_3)]) e_X7_tightest_59 (j := 6) rfl (ii_1 v6_12) (by decide) rfl ?_
          refine kk_goto e_X7_tightest_62 ?_
          exact kk_sub [2, 3, 4, 5, 6, 1, 0] rfl (hrec_13 v5_15 (v6_12 + (1 : Int32)) h)
theorem e_X7_complete_0 : kk_d cX7_complete 0 (.iload_n 1) 1 1 := ⟨by decide +kernel, rfl⟩
theorem e_X7_complete_1 : kk_dj cX7_complete 1 (.ifCond .ne 5) 3 (5) 4 6 := ⟨by decide +kernel, rfl, by decide⟩
theorem e_X7_complete_6 : kk_d cX7_complete 6 (.aload_n 0) 1 7 := ⟨by decide +kernel, rfl⟩
theorem e_X7_complete_7 : kk_d cX7_complete 7 (.iload_n 1) 1 8 := ⟨by decide +kernel, rfl⟩
theorem e_X7_complete_8 : kk_d cX7_complete 8 (.invokevirtual 95) 3 11 := ⟨by decide +kernel, rfl⟩
theorem e_X7_complete_11 : kk_d cX7_complete 11 (.istore_n 3) 1 12 := ⟨by decide +kernel, rfl⟩
theorem e_X7_complete_12 : kk_d cX7_complete 12 (.iload_n 2) 1 13 := ⟨by decide +kernel, rfl⟩
theorem e_X7_complete_13 : kk_d cX7_complete 13 (.bipush 20) 2 15 := ⟨by decide +kernel, rfl⟩
theorem e_X7_complete_15 : kk_dj cX7_complete 15 (.if_icmp .ge 16) 3 (16) 18 31 := ⟨by decide +kernel, rfl, by decide⟩
theorem e_X7_complete_31 : kk_d cX7_complete 31 (.iconst 0) 1 32 := ⟨by decide +kernel, rfl⟩
theorem e_X7_complete_32 : kk_d cX7_complete 32 .ireturn 1 33 := ⟨by decide +kernel, rfl⟩
theorem e_X7_complete_18 : kk_d cX7_complete 18 (.iload_n 3) 1 19 := ⟨by decide +kernel, rfl⟩
theorem e_X7_complete_19 : kk_d cX7_complete 19 (.iconst (-1)) 1 20 := ⟨by decide +kernel, rfl⟩
theorem e_X7_complete_20 : kk_dj cX7_complete 20 (.if_icmp .eq 11) 3 (11) 23 31 := ⟨by decide +kernel, rfl, by decide⟩
theorem e_X7_complete_23 : kk_d cX7_complete 23 (.aload_n 0) 1 24 := ⟨by decide +kernel, rfl⟩
theorem e_X7_complete_24 : kk_d cX7_complete 24 (.iload_n 1) 1 25 := ⟨by decide +kernel, rfl⟩
theorem e_X7_complete_25 : kk_d cX7_complete 25 (.invokevirtual 98) 3 28 := ⟨by decide +kernel, rfl⟩
theorem e_X7_complete_28 : kk_dj cX7_complete 28 (.ifCond .eq 5) 3 (5) 31 33 := ⟨by decide +kernel, rfl, by decide⟩
theorem e_X7_complete_33 : kk_d cX7_complete 33 (.iload_n 1) 1 34 := ⟨by decide +kernel, rfl⟩
theorem e_X7_complete_34 : kk_d cX7_complete 34 (.iconst 1) 1 35 := ⟨by decide +kernel, rfl⟩
theorem e_X7_complete_35 : kk_d cX7_complete 35 (.iload_n 3) 1 36 := ⟨by decide +kernel, rfl⟩
theorem e_X7_complete_36 : kk_d cX7_complete 36 .ishl 1 37 := ⟨by decide +kernel, rfl⟩
theorem e_X7_complete_37 : kk_d cX7_complete 37 (.iconst (-1)) 1 38 := ⟨by decide +kernel, rfl⟩
theorem e_X7_complete_38 : kk_d cX7_complete 38 .ixor 1 39 := ⟨by decide +kernel, rfl⟩
theorem e_X7_complete_39 : kk_d cX7_complete 39 .iand 1 40 := ⟨by decide +kernel, rfl⟩
theorem e_X7_complete_40 : kk_d cX7_complete 40 (.istore 4) 2 42 := ⟨by decide +kernel, rfl⟩
theorem e_X7_complete_42 : kk_d cX7_complete 42 (.iconst 0) 1 43 := ⟨by decide +kernel, rfl⟩
theorem e_X7_complete_43 : kk_d cX7_complete 43 (.istore 5) 2 45 := ⟨by decide +kernel, rfl⟩
theorem e_X7_complete_45 : kk_d cX7_complete 45 (.iload 5) 2 47 := ⟨by decide +kernel, rfl⟩
theorem e_X7_complete_47 : kk_d cX7_complete 47 (.bipush 9) 2 49 := ⟨by decide +kernel, rfl⟩
theorem e_X7_complete_49 : kk_dj cX7_complete 49 (.if_icmp .ge 62) 3 (62) 52 111 := ⟨by decide +kernel, rfl, by decide⟩
theorem e_X7_complete_111 : kk_d cX7_complete 111 (.iconst 0) 1 112 := ⟨by decide +kernel, rfl⟩
theorem e_X7_complete_112 : kk_d cX7_complete 112 .ireturn 1 113 := ⟨by decide +kernel, rfl⟩
theorem e_X7_complete_52 : kk_d cX7_complete 52 (.aload_n 0) 1 53 := ⟨by decide +kernel, rfl⟩
theorem e_X7_complete_53 : kk_d cX7_complete 53 (.getfield 9) 3 56 := ⟨by decide +kernel, rfl⟩
theorem e_X7_complete_56 : kk_d cX7_complete 56 (.iload 5) 2 58 := ⟨by decide +kernel, rfl⟩
theorem e_X7_complete_58 : kk_d cX7_complete 58 .iaload 1 59 := ⟨by decide +kernel, rfl⟩
theorem e_X7_complete_59 : kk_d cX7_complete 59 (.iload_n 3) 1 60 := ⟨by decide +kernel, rfl⟩
theorem e_X7_complete_60 : kk_d cX7_complete 60 .ishr 1 61 := ⟨by decide +kernel, rfl⟩
theorem e_X7_complete_61 : kk_d cX7_complete 61 (.iconst 1) 1 62 := ⟨by decide +kernel, rfl⟩
theorem e_X7_complete_62 : kk_d cX7_complete 62 .iand 1 63 := ⟨by decide +kernel, rfl⟩
theorem e_X7_complete_63 : kk_dj cX7_complete 63 (.ifCond .eq 17) 3 (17) 66 80 := ⟨by decide +kernel, rfl, by decide⟩
theorem e_X7_complete_81 : kk_d cX7_complete 81 (.istore 6) 2 83 := ⟨by decide +kernel, rfl⟩
theorem e_X7_complete_83 : kk_d cX7_complete 83 (.iload 6) 2 85 := ⟨by decide +kernel, rfl⟩
theorem e_X7_complete_85 : kk_dj cX7_complete 85 (.ifCond .eq 20) 3 (20) 88 105 := ⟨by decide +kernel, rfl, by decide⟩
theorem e_X7_complete_105 : kk_d cX7_complete 105 (.iinc 5 1) 3 108 := ⟨by decide +kernel, rfl⟩
theorem e_X7_complete_108 : kk_dj cX7_complete 108 (.goto (-63)) 3 (-63) 111 45 := ⟨by decide +kernel, rfl, by decide⟩
theorem e_X7_complete_88 : kk_d cX7_complete 88 (.aload_n 0) 1 89 := ⟨by decide +kernel, rfl⟩
theorem e_X7_complete_89 : kk_d cX7_complete 89 (.iload_n 3) 1 90 := ⟨by decide +kernel, rfl⟩
theorem e_X7_complete_90 : kk_d cX7_complete 90 (.iload 5) 2 92 := ⟨by decide +kernel, rfl⟩
theorem e_X7_complete_92 : kk_d cX7_complete 92 (.iload 4) 2 94 := ⟨by decide +kernel, rfl⟩
theorem e_X7_complete_94 : kk_d cX7_complete 94 (.iload_n 2) 1 95 := ⟨by decide +kernel, rfl⟩
theorem e_X7_complete_95 : kk_d cX7_complete 95 (.iconst 1) 1 96 := ⟨by decide +kernel, rfl⟩
theorem e_X7_complete_96 : kk_d cX7_complete 96 .iadd 1 97 := ⟨by decide +kernel, rfl⟩
theorem e_X7_complete_97 : kk_d cX7_complete 97 (.invokevirtual 91) 3 100 := ⟨by decide +kernel, rfl⟩
theorem e_X7_complete_100 : kk_dj cX7_complete 100 (.ifCond .eq 5) 3 (5) 103 105 := ⟨by decide +kernel, rfl, by decide⟩
theorem e_X7_complete_103 : kk_d cX7_complete 103 (.iconst 1) 1 104 := ⟨by decide +kernel, rfl⟩
theorem e_X7_complete_104 : kk_d cX7_complete 104 .ireturn 1 105 := ⟨by decide +kernel, rfl⟩
theorem e_X7_complete_80 : kk_d cX7_complete 80 (.iconst 0) 1 81 := ⟨by decide +kernel, rfl⟩
theorem e_X7_complete_66 : kk_d cX7_complete 66 (.aload_n 0) 1 67 := ⟨by decide +kernel, rfl⟩
theorem e_X7_complete_67 : kk_d cX7_complete 67 (.iload 5) 2 69 := ⟨by decide +kernel, rfl⟩
theorem e_X7_complete_69 : kk_d cX7_complete 69 (.iload_n 1) 1 70 := ⟨by decide +kernel, rfl⟩
theorem e_X7_complete_70 : kk_d cX7_complete 70 (.invokevirtual 102) 3 73 := ⟨by decide +kernel, rfl⟩
theorem e_X7_complete_73 : kk_dj cX7_complete 73 (.ifCond .ne 7) 3 (7) 76 80 := ⟨by decide +kernel, rfl, by decide⟩
theorem e_X7_complete_76 : kk_d cX7_complete 76 (.iconst 1) 1 77 := ⟨by decide +kernel, rfl⟩
theorem e_X7_complete_77 : kk_dj cX7_complete 77 (.goto 4) 3 (4) 80 81 := ⟨by decide +kernel, rfl, by decide⟩
theorem e_X7_complete_4 : kk_d cX7_complete 4 (.iconst 1) 1 5 := ⟨by decide +kernel, rfl⟩
theorem e_X7_complete_5 : kk_d cX7_complete 5 .ireturn 1 6 := ⟨by decide +kernel, rfl⟩
set_option maxRecDepth 4000 in
theorem s_X7_complete (Z : kk_Z) : ∀ (n : Nat) (v1 : Int32) (v2 : Int32) (σ : kk_St) (Q : Int32 → kk_St → Prop), f_X7_complete n v1 v2 σ Q → kk_M Z sh_C yX7_complete cX7_complete 7 (some .boolean) (kk_R (2 * n + 5)) [.ref (Z.2.1 7), .int v1, .int v2] σ (kk_Qi Z sh_C Q) := by
  intro n
  induction n with
  | zero => intro _ _ _ _ h; exact h.elim
  | succ n ih =>
    intro v1 v2 σ Q h
    unfold f_X7_complete at h
    refine kk_met (own := RX7) (by decide) rfl (Nat.le_of_ble_eq_true rfl) rfl ?_
    refine kk_iload_n 1 rfl e_X7_complete_0 ?_
    refine kk_if_ne e_X7_complete_1 (fun c_24 => ?_) (fun c_24 => ?_)
    · replace h := h.1 c_24
      refine kk_aload_n 0 rfl e_X7_complete_6 ?_
      refine kk_iload_n 1 rfl e_X7_complete_7 ?_
      refine kk_callVip (As := [.int v1]) (rest := []) e_X7_complete_8 ml_X7_95 ⟨_, _, _, _, rfl, rfl⟩ rfl (kk_fitR (by omega) (by decide)) (Nat.le_of_ble_eq_true rfl) rfl (s_X7_tightest Z v1 σ _ h) (fun r_1 h => ?_)
      refine kk_istore_n (lv' := [(3, .int r_1), (0, .ref (Z.2.1 7)), (1, .int v1), (2, .int v2)]) e_X7_complete_11 rfl (by decide) rfl ?_
      refine kk_iload_n 3 rfl e_X7_complete_12 ?_
      refine kk_bipush bp_20 e_X7_complete_13 ?_
      refine kk_jW0 (P := KK Z sh_C RX7 cX7_complete 7 (some .boolean) (kk_R (2 * (n + 1) + 5)) (kk_Qi Z sh_C Q) 31 [] [] σ) h ?_ ?_
      · intro h
        refine kk_iconst ic_0 e_X7_complete_31 ?_
        exact kk_zret e_X7_complete_32 (Or.inl rfl) h
      · intro J_2 hJ_2 h
        refine kk_icmp_ge e_X7_complete_15 (fun c_23 => ?_) (fun c_23 => ?_)
        · replace h := h.1 c_23
          exact kk_sub [] rfl (hJ_2 h)
        · replace h := h.2 c_23
          refine kk_iload_n 0 rfl e_X7_complete_18 ?_
          refine kk_iconst ic_m1 e_X7_complete_19 ?_
          refine kk_icmp_eq e_X7_complete_20 (fun c_22 => ?_) (fun c_22 => ?_)
          · replace h := h.1 c_22
            exact kk_sub [] rfl (hJ_2 h)
          · replace h := h.2 c_22
            refine kk_aload_n 1 rfl e_X7_complete_23 ?_
            refine kk_iload_n 2 rfl e_X7_complete_24 ?_
            refine kk_callVip (As := [.int v1]) (rest := []) e_X7_complete_25 ml_X7_98 ⟨_, _, _, _, rfl, rfl⟩ rfl (kk_fitR (by omega) (by decide)) (Nat.le_of_ble_eq_true rfl) rfl (s_X7_isHopeless Z v1 σ _ h) (fun r_3 h => ?_)
            refine kk_if_eq e_X7_complete_28 (fun c_21 => ?_) (fun c_21 => ?_)
            · replace h := h.1 c_21
              refine kk_iload_n 2 rfl e_X7_complete_33 ?_
              refine kk_iconst ic_1 e_X7_complete_34 ?_
              refine kk_iload_n 0 rfl e_X7_complete_35 ?_
              refine kk_ishl e_X7_complete_36 ?_
              refine kk_iconst ic_m1 e_X7_complete_37 ?_
              refine kk_ixor e_X7_complete_38 ?_
              refine kk_iand e_X7_complete_39 ?_
              refine kk_topi (fun v4_4 ev4_4 => ?_)
              replace h := h v4_4 ev4_4
              refine kk_istore (lv' := [(4, .int v4_4), (3, .int r_1), (0, .ref (Z.2.1 7)), (1, .int v1), (2, .int v2)]) e_X7_complete_40 (by decide) rfl ?_
              refine kk_iconst ic_0 e_X7_complete_42 ?_
              refine kk_istore (lv' := [(5, .int (0 : Int32)), (4, .int v4_4), (3, .int r_1), (0, .ref (Z.2.1 7)), (1, .int v1), (2, .int v2)]) e_X7_complete_43 (by decide) rfl ?_
              refine kk_sub [3, 4, 5, 2, 1, 0] rfl ?_
              refine kk_lpW2 (P := fun (v5_5 : Int32) (σ_6 : kk_St) => KK Z sh_C RX7 cX7_complete 7 (some .boolean) (kk_R (2 * (n + 1) + 5)) (kk_Qi Z sh_C Q) 45 [(0, .ref (Z.2.1 7)), (1, .int v1), (2, .int v2), (3, .int r_1), (4, .int v4_4), (5, .int v5_5)] [] σ_6) ?_ h
              intro rec_7 hrec_7 v5_5 σ_6 h
              refine kk_iload 5 rfl e_X7_complete_45 ?_
              refine kk_bipush bp_9 e_X7_complete_47 ?_
              refine kk_icmp_ge e_X7_complete_49 (fun c_20 => ?_) (fun c_20 => ?_)
              · replace h := h.1 c_20
                refine kk_iconst ic_0 e_X7_complete_111 ?_
                exact kk_zret e_X7_complete_112 (Or.inl rfl) h
              · replace h := h.2 c_20
                refine kk_aload_n 0 rfl e_X7_complete_52 ?_
                refine kk_getr e_X7_complete_53 fl_X7_9 rfl rfl ?_
                refine kk_iload 5 rfl e_X7_complete_56 ?_
                refine kk_iald e_X7_complete_58 rfl h.1 ?_
                replace h := h.2
                refine kk_iload_n 3 rfl e_X7_complete_59 ?_
                refine kk_ishr e_X7_complete_60 ?_
                refine kk_iconst ic_1 e_X7_complete_61 ?_
                refine kk_iand e_X7_complete_62 ?_
                refine kk_jW1 (P := fun (t_8 : Int32) => KK Z sh_C RX7 cX7_complete 7 (some .boolean) (kk_R (2 * (n + 1) + 5)) (kk_Qi Z sh_C Q) 81 [(0, .ref (Z.2.1 7)), (1, .int v1), (2, .int v2), (3, .int r_1), (4, .int v4_4), (5, .int v5_5)] [.int t_8] σ_6) h ?_ ?_
                · intro t_8 h
                  refine kk_istore (lv' := [(6, .int t_8), (0, .ref (Z.2.1 7)), (1, .int v1), (2, .int v2), (3, .int r_1), (4, .int v4_4), (5, .int v5_5)]) e_X7_complete_81 (by decide) rfl ?_
                  refine kk_iload 0 rfl e_X7_complete_83 ?_
                  refine kk_jW1 (P := fun (σ_10 : kk_St) => KK Z sh_C RX7 cX7_complete 7 (some .boolean) (kk_R (2 * (n + 1) + 5)) (kk_Qi Z sh_C Q) 105 [(0, .ref (Z.2.1 7)), (1, .int v1), (2, .int v2), (3, .int r_1), (4, .int v4_4), (5, .int v5_5)] [] σ_10) h ?_ ?_
                  · intro σ_10 h
                    refine kk_iinc (lv' := [(5, .int (v5_5 + (1 : Int32))), (0, .ref (Z.2.1 7)), (1, .int v1), (2, .int v2), (3, .int r_1), (4, .int v4_4)]) e_X7_complete_105 (j := 5) rfl (ii_1 v5_5) (by decide) rfl ?_
                    refine kk_goto e_X7_complete_108 ?_
                    exact kk_sub [1, 2, 3, 4, 5, 0] rfl (hrec_7 (v5_5 + (1 : Int32)) σ_10 h)
                  · intro J_11 hJ_11 h
                    refine kk_if_eq e_X7_complete_85 (fun c_15 => ?_) (fun c_15 => ?_)
                    · replace h := h.1 c_15
                      exact kk_sub [1, 2, 3, 4, 5, 6] rfl (hJ_11 σ_6 h)
                    · replace h := h.2 c_15
                      refine kk_aload_n 1 rfl e_X7_complete_88 ?_
                      refine kk_iload_n 4 rfl e_X7_complete_89 ?_
                      refine kk_iload 6 rfl e_X7_complete_90 ?_
                      refine kk_iload 5 rfl e_X7_complete_92 ?_
                      refine kk_iload_n 3 rfl e_X7_complete_94 ?_
                      refine kk_iconst ic_1 e_X7_complete_95 ?_
                      refine kk_iadd e_X7_complete_96 ?_
                      refine kk_callVi (As := [.int r_1, .int v5_5, .int v4_4, .int (v2 + (1 : Int32))]) (rest := []) e_X7_complete_97 ml_X7_91 ⟨_, _, _, _, rfl, rfl⟩ rfl (kk_fitR (by omega) (by decide)) (Nat.le_of_ble_eq_true rfl) rfl (s_X7_completeWith Z (f_X7_complete n) (2 * n + 5) ih r_1 v5_5 v4_4 (v2 + (1 : Int32)) σ_6 _ h) (fun r_12 σ_13 h => ?_)
                      refine kk_if_eq e_X7_complete_100 (fun c_14 => ?_) (fun c_14 => ?_)
                      · replace h := h.1 c_14
                        exact kk_sub [1, 2, 3, 4, 5, 6] rfl (hJ_11 σ_13 h)
                      · replace h := h.2 c_14
                        refine kk_iconst ic_1 e_X7_complete_103 ?_
                        exact kk_zret e_X7_complete_104 (Or.inr rfl) h
                · intro J_9 hJ_9 h
                  refine kk_jW0 (P := KK Z sh_C RX7 cX7_complete 7 (some .boolean) (kk_R (2 * (n + 1) + 5)) (kk_Qi Z sh_C Q) 80 [(0, .ref (Z.2.1 7)), (1, .int v1), (2, .int v2), (3, .int r_1), (4, .int v4_4), (5, .int v5_5)] [] σ_6) h ?_ ?_
                  · intro h
                    refine kk_iconst ic_0 e_X7_complete_80 ?_
                    exact kk_sub [0, 1, 2, 3, 4, 5] rfl (hJ_9 (0 : Int32) h)
                  · intro J_16 hJ_16 h
                    refine kk_if_eq e_X7_complete_63 (fun c_19 => ?_) (fun c_19 => ?_)
                    · replace h := h.1 c_19
                      exact kk_sub [0, 1, 2, 3, 4, 5] rfl (hJ_16 h)
                    · replace h := h.2 c_19
                      refine kk_aload_n 0 rfl e_X7_complete_66 ?_
                      refine kk_iload 5 rfl e_X7_complete_67 ?_
                      refine kk_iload_n 1 rfl e_X7_complete_69 ?_
                      refine kk_callVip (As := [.int v5_5, .int v1]) (rest := []) e_X7_complete_70 ml_X7_102 ⟨_, _, _, _, rfl, rfl⟩ rfl (kk_fitR (by omega) (by decide)) (Nat.le_of_ble_eq_true rfl) rfl (s_X7_hasTwin Z v5_5 v1 σ_6 _ h) (fun r_17 h => ?_)
                      refine kk_if_ne e_X7_complete_73 (fun c_18 => ?_) (fun c_18 => ?_)
                      · replace h := h.1 c_18
                        exact kk_sub [0, 1, 2, 3, 4, 5] rfl (hJ_16 h)
                      · replace h := h.2 c_18
                        refine kk_iconst ic_1 e_X7_complete_76 ?_
                        refine kk_goto e_X7_complete_77 ?_
                        exact kk_sub [0, 1, 2, 3, 4, 5] rfl (hJ_9 (1 : Int32) h)
            · replace h := h.2 c_21
              exact kk_sub [] rfl (hJ_2 h)
    · replace h := h.2 c_24
      refine kk_iconst ic_1 e_X7_complete_4 ?_
      exact kk_zret e_X7_complete_5 (Or.inr rfl) h
theorem e_X7_openBelow_0 : kk_d cX7_openBelow 0 (.iconst 0) 1 1 := ⟨by decide +kernel, rfl⟩
theorem e_X7_openBelow_1 : kk_d cX7_openBelow 1 (.istore_n 2) 1 2 := ⟨by decide +kernel, rfl⟩
theorem e_X7_openBelow_2 : kk_d cX7_openBelow 2 (.iload_n 2) 1 3 := ⟨by decide +kernel, rfl⟩
theorem e_X7_openBelow_3 : kk_d cX7_openBelow 3 (.bipush 9) 2 5 := ⟨by decide +kernel, rfl⟩
theorem e_X7_openBelow_5 : kk_dj cX7_openBelow 5 (.if_icmp .ge 31) 3 (31) 8 36 := ⟨by decide +kernel, rfl, by decide⟩
theorem e_X7_openBelow_36 : kk_d cX7_openBelow 36 .return_ 1 37 := ⟨by decide +kernel, rfl⟩
theorem e_X7_openBelow_8 : kk_d cX7_openBelow 8 (.aload_n 0) 1 9 := ⟨by decide +kernel, rfl⟩
theorem e_X7_openBelow_9 : kk_d cX7_openBelow 9 (.getfield 9) 3 12 := ⟨by decide +kernel, rfl⟩
theorem e_X7_openBelow_12 : kk_d cX7_openBelow 12 (.iload_n 2) 1 13 := ⟨by decide +kernel, rfl⟩
theorem e_X7_openBelow_13 : kk_d cX7_openBelow 13 (.iload_n 2) 1 14 := ⟨by decide +kernel, rfl⟩
theorem e_X7_openBelow_14 : kk_d cX7_openBelow 14 (.iload_n 1) 1 15 := ⟨by decide +kernel, rfl⟩
theorem e_X7_openBelow_15 : kk_dj cX7_openBelow 15 (.if_icmp .ge 13) 3 (13) 18 28 := ⟨by decide +kernel, rfl, by decide⟩
theorem e_X7_openBelow_29 : kk_d cX7_openBelow 29 .iastore 1 30 := ⟨by decide +kernel, rfl⟩
theorem e_X7_openBelow_30 : kk_d cX7_openBelow 30 (.iinc 2 1) 3 33 := ⟨by decide +kernel, rfl⟩
theorem e_X7_openBelow_33 : kk_dj cX7_openBelow 33 (.goto (-31)) 3 (-31) 36 2 := ⟨by decide +kernel, rfl, by decide⟩
theorem e_X7_openBelow_28 : kk_d cX7_openBelow 28 (.iconst 0) 1 29 := ⟨by decide +kernel, rfl⟩
theorem e_X7_openBelow_18 : kk_d cX7_openBelow 18 (.aload_n 0) 1 19 := ⟨by decide +kernel, rfl⟩
theorem e_X7_openBelow_19 : kk_d cX7_openBelow 19 (.getfield 35) 3 22 := ⟨by decide +kernel, rfl⟩
theorem e_X7_openBelow_22 : kk_d cX7_openBelow 22 (.invokevirtual 42) 3 25 := ⟨by decide +kernel, rfl⟩
theorem e_X7_openBelow_25 : kk_dj cX7_openBelow 25 (.goto 4) 3 (4) 28 29 := ⟨by decide +kernel, rfl, by decide⟩
set_option maxRecDepth 4000 in
theorem s_X7_openBelow (Z : kk_Z) (v1 : Int32) (σ : kk_St) (Q : kk_St → Prop) (h : f_X7_openBelow v1 σ Q) : kk_M Z sh_C yX7_openBelow cX7_openBelow 3 none (kk_R 3) [.ref (Z.2.1 7), .int v1] σ (kk_Qv Z sh_C Q) := by
  unfold f_X7_openBelow at h
  refine kk_met (own := RX7) (by decide) rfl (Nat.le_of_ble_eq_true rfl) rfl ?_
  refine kk_iconst ic_0 e_X7_openBelow_0 ?_
  refine kk_istore_n (lv' := [(2, .int (0 : Int32)), (0, .ref (Z.2.1 7)), (1, .int v1)]) e_X7_openBelow_1 rfl (by decide) rfl ?_
  refine kk_sub [1, 2, 0] rfl ?_
  refine kk_lpW2 (P := fun (v2_1 : Int32) (σ_2 : kk_St) => KK Z sh_C RX7 cX7_openBelow 3 none (kk_R 3) (kk_Qv Z sh_C Q) 2 [(0, .ref (Z.2.1 7)), (1, .int v1), (2, .int v2_1)] [] σ_2) ?_ h
  intro rec_3 hrec_3 v2_1 σ_2 h
  refine kk_iload_n 2 rfl e_X7_openBelow_2 ?_
  refine kk_bipush bp_9 e_X7_openBelow_3 ?_
  refine kk_icmp_ge e_X7_openBelow_5 (fun c_9 => ?_) (fun c_9 => ?_)
  · replace h := h.1 c_9
    exact kk_vret e_X7_openBelow_36 h
  · replace h := h.2 c_9
    refine kk_aload_n 0 rfl e_X7_openBelow_8 ?_
    refine kk_getr e_X7_openBelow_9 fl_X7_9 rfl rfl ?_
    refine kk_iload_n 2 rfl e_X7_openBelow_12 ?_
    refine kk_iload_n 2 rfl e_X7_openBelow_13 ?_
    refine kk_iload_n 1 rfl e_X7_openBelow_14 ?_
    refine kk_jW1 (P := fun (t_4 : Int32) => KK Z sh_C RX7 cX7_openBelow 3 none (kk_R 3) (kk_Qv Z sh_C Q) 29 [(0, .ref (Z.2.1 7)), (1, .int v1), (2, .int v2_1)] [.int t_4, .int v2_1, .ref (Z.2.1 20)] σ_2) h ?_ ?_
    · intro t_4 h
      refine kk_iast e_X7_openBelow_29 rfl h.1 ?_
      replace h := h.2
      refine kk_tops (fun σ_6 eσ_6 => ?_)
      replace h := h σ_6 eσ_6
      refine kk_iinc (lv' := [(2, .int (v2_1 + (1 : Int32))), (0, .ref (Z.2.1 7)), (1, .int v1)]) e_X7_openBelow_30 (j := 2) rfl (ii_1 v2_1) (by decide) rfl ?_
      refine kk_goto e_X7_openBelow_33 ?_
      exact kk_sub [1, 2, 0] rfl (hrec_3 (v2_1 + (1 : Int32)) σ_6 h)
    · intro J_5 hJ_5 h
      refine kk_icmp_ge e_X7_openBelow_15 (fun c_8 => ?_) (fun c_8 => ?_)
      · replace h := h.1 c_8
        refine kk_iconst ic_0 e_X7_openBelow_28 ?_
        exact kk_sub [0, 1, 2] rfl (hJ_5 (0 : Int32) h)
      · replace h := h.2 c_8
        refine kk_aload_n 0 rfl e_X7_openBelow_18 ?_
        refine kk_getr e_X7_openBelow_19 fl_X7_35 rfl rfl ?_
        refine kk_callVip (As := []) (rest := [.int v2_1, .ref (Z.2.1 20)]) e_X7_openBelow_22 ml_X7_42 ⟨_, _, _, _, rfl, rfl⟩ rfl (kk_fitR (by decide) (by decide)) (Nat.le_of_ble_eq_true rfl) rfl (s_X6_allLines Z σ_2 _ h) (fun r_7 h => ?_)
        refine kk_goto e_X7_openBelow_25 ?_
        exact kk_sub [0, 1, 2] rfl (hJ_5 r_7 h)
theorem e_X7_canDo_0 : kk_d cX7_canDo 0 (.aload_n 0) 1 1 := ⟨by decide +kernel, rfl⟩
theorem e_X7_canDo_1 : kk_d cX7_canDo 1 (.getfield 35) 3 4 := ⟨by decide +kernel, rfl⟩
theorem e_X7_canDo_4 : kk_d cX7_canDo 4 (.iload_n 1) 1 5 := ⟨by decide +kernel, rfl⟩
theorem e_X7_canDo_5 : kk_d cX7_canDo 5 (.invokevirtual 61) 3 8 := ⟨by decide +kernel, rfl⟩
theorem e_X7_canDo_8 : kk_d cX7_canDo 8 (.istore_n 3) 1 9 := ⟨by decide +kernel, rfl⟩
theorem e_X7_canDo_9 : kk_d cX7_canDo 9 (.iload_n 3) 1 10 := ⟨by decide +kernel, rfl⟩
theorem e_X7_canDo_10 : kk_d cX7_canDo 10 (.iload_n 2) 1 11 := ⟨by decide +kernel, rfl⟩
theorem e_X7_canDo_11 : kk_dj cX7_canDo 11 (.if_icmp .eq 14) 3 (14) 14 25 := ⟨by decide +kernel, rfl, by decide⟩
theorem e_X7_canDo_25 : kk_d cX7_canDo 25 (.aload_n 0) 1 26 := ⟨by decide +kernel, rfl⟩
theorem e_X7_canDo_26 : kk_d cX7_canDo 26 (.getfield 35) 3 29 := ⟨by decide +kernel, rfl⟩
theorem e_X7_canDo_29 : kk_d cX7_canDo 29 (.iload_n 1) 1 30 := ⟨by decide +kernel, rfl⟩
theorem e_X7_canDo_30 : kk_d cX7_canDo 30 (.iload_n 2) 1 31 := ⟨by decide +kernel, rfl⟩
theorem e_X7_canDo_31 : kk_d cX7_canDo 31 (.invokevirtual 65) 3 34 := ⟨by decide +kernel, rfl⟩
theorem e_X7_canDo_34 : kk_dj cX7_canDo 34 (.ifCond .eq 5) 3 (5) 37 39 := ⟨by decide +kernel, rfl, by decide⟩
theorem e_X7_canDo_39 : kk_d cX7_canDo 39 (.aload_n 0) 1 40 := ⟨by decide +kernel, rfl⟩
theorem e_X7_canDo_40 : kk_d cX7_canDo 40 (.iload_n 2) 1 41 := ⟨by decide +kernel, rfl⟩
theorem e_X7_canDo_41 : kk_d cX7_canDo 41 (.invokevirtual 69) 3 44 := ⟨by decide +kernel, rfl⟩
theorem e_X7_canDo_44 : kk_d cX7_canDo 44 (.aload_n 0) 1 45 := ⟨by decide +kernel, rfl⟩
theorem e_X7_canDo_45 : kk_d cX7_canDo 45 (.iload_n 1) 1 46 := ⟨by decide +kernel, rfl⟩
theorem e_X7_canDo_46 : kk_d cX7_canDo 46 (.iconst 0) 1 47 := ⟨by decide +kernel, rfl⟩
theorem e_X7_canDo_47 : kk_d cX7_canDo 47 (.invokevirtual 73) 3 50 := ⟨by decide +kernel, rfl⟩
theorem e_X7_canDo_50 : kk_d cX7_canDo 50 .ireturn 1 51 := ⟨by decide +kernel, rfl⟩
theorem e_X7_canDo_37 : kk_d cX7_canDo 37 (.iconst 0) 1 38 := ⟨by decide +kernel, rfl⟩
theorem e_X7_canDo_38 : kk_d cX7_canDo 38 .ireturn 1 39 := ⟨by decide +kernel, rfl⟩
theorem e_X7_canDo_14 : kk_d cX7_canDo 14 (.iload_n 3) 1 15 := ⟨by decide +kernel, rfl⟩
theorem e_X7_canDo_15 : kk_d cX7_canDo 15 (.iload_n 2) 1 16 := ⟨by decide +kernel, rfl⟩
theorem e_X7_canDo_16 : kk_dj cX7_canDo 16 (.if_icmp .ge 7) 3 (7) 19 23 := ⟨by decide +kernel, rfl, by decide⟩
theorem e_X7_canDo_24 : kk_d cX7_canDo 24 .ireturn 1 25 := ⟨by decide +kernel, rfl⟩
theorem e_X7_canDo_23 : kk_d cX7_canDo 23 (.iconst 0) 1 24 := ⟨by decide +kernel, rfl⟩
theorem e_X7_canDo_19 : kk_d cX7_canDo 19 (.iconst 1) 1 20 := ⟨by decide +kernel, rfl⟩
theorem e_X7_canDo_20 : kk_dj cX7_canDo 20 (.goto 4) 3 (4) 23 24 := ⟨by decide +kernel, rfl, by decide⟩
set_option maxRecDepth 4000 in
theorem s_X7_canDo (Z : kk_Z) (v1 : Int32) (v2 : Int32) (σ : kk_St) (Q : Int32 → kk_St → Prop) (h : f_X7_canDo v1 v2 σ Q) : kk_M Z sh_C yX7_canDo cX7_canDo 4 (some .boolean) (kk_R 66) [.ref (Z.2.1 7), .int v1, .int v2] σ (kk_Qi Z sh_C Q) := by
  unfold f_X7_canDo at h
  refine kk_met (own := RX7) (by decide) rfl (Nat.le_of_ble_eq_true rfl) rfl ?_
  refine kk_aload_n 0 rfl e_X7_canDo_0 ?_
  refine kk_getr e_X7_canDo_1 fl_X7_35 rfl rfl ?_
  refine kk_iload_n 1 rfl e_X7_canDo_4 ?_
  refine kk_callVip (As := [.int v1]) (rest := []) e_X7_canDo_5 ml_X7_61 ⟨_, _, _, _, rfl, rfl⟩ rfl (kk_fitR (by decide) (by decide)) (Nat.le_of_ble_eq_true rfl) rfl (s_X6_mostAtOnePost Z v1 σ _ h) (fun r_1 h => ?_)
  refine kk_istore_n (lv' := [(3, .int r_1), (0, .ref (Z.2.1 7)), (1, .int v1), (2, .int v2)]) e_X7_canDo_8 rfl (by decide) rfl ?_
  refine kk_iload_n 0 rfl e_X7_canDo_9 ?_
  refine kk_iload_n 3 rfl e_X7_canDo_10 ?_
  refine kk_icmp_eq e_X7_canDo_11 (fun c_10 => ?_) (fun c_10 => ?_)
  · replace h := h.1 c_10
    refine kk_aload_n 1 rfl e_X7_canDo_25 ?_
    refine kk_getr e_X7_canDo_26 fl_X7_35 rfl rfl ?_
    refine kk_iload_n 2 rfl e_X7_canDo_29 ?_
    refine kk_iload_n 3 rfl e_X7_canDo_30 ?_
    refine kk_callVip (As := [.int v1, .int v2]) (rest := []) e_X7_canDo_31 ml_X7_65 ⟨_, _, _, _, rfl, rfl⟩ rfl (kk_fitR (by decide) (by decide)) (Nat.le_of_ble_eq_true rfl) rfl (s_X6_crowdedSet Z v1 v2 σ _ h) (fun r_2 h => ?_)
    refine kk_if_eq e_X7_canDo_34 (fun c_6 => ?_) (fun c_6 => ?_)
    · replace h := h.1 c_6
      refine kk_aload_n 1 rfl e_X7_canDo_39 ?_
      refine kk_iload_n 3 rfl e_X7_canDo_40 ?_
      refine kk_callVv (As := [.int v2]) (rest := []) e_X7_canDo_41 ml_X7_69 ⟨_, _, _, _, rfl, rfl⟩ rfl (kk_fitR (by decide) (by decide)) (Nat.le_of_ble_eq_true rfl) rfl (s_X7_openBelow Z v2 σ _ h) (fun σ_3 h => ?_)
      refine kk_aload_n 1 rfl e_X7_canDo_44 ?_
      refine kk_iload_n 2 rfl e_X7_canDo_45 ?_
      refine kk_iconst ic_0 e_X7_canDo_46 ?_
      refine kk_callVi (As := [.int v1, .int (0 : Int32)]) (rest := []) e_X7_canDo_47 ml_X7_73 ⟨_, _, _, _, rfl, rfl⟩ rfl (kk_fitR (by decide) (by decide)) (Nat.le_of_ble_eq_true rfl) rfl (s_X7_complete Z 30 v1 (0 : Int32) σ_3 _ h) (fun r_4 σ_5 h => ?_)
      exact kk_zret e_X7_canDo_50 h.1 h.2
    · replace h := h.2 c_6
      refine kk_iconst ic_0 e_X7_canDo_37 ?_
      exact kk_zret e_X7_canDo_38 (Or.inl rfl) h
  · replace h := h.2 c_10
    refine kk_iload_n 0 rfl e_X7_canDo_14 ?_
    refine kk_iload_n 3 rfl e_X7_canDo_15 ?_
    refine kk_jW1 (P := fun (t_7 : Int32) => KK Z sh_C RX7 cX7_canDo 4 (some .boolean) (kk_R 66) (kk_Qi Z sh_C Q) 24 [] [.int t_7] σ) h ?_ ?_
    · intro t_7 h
      exact kk_zret e_X7_canDo_24 h.1 h.2
    · intro J_8 hJ_8 h
      refine kk_icmp_ge e_X7_canDo_16 (fun c_9 => ?_) (fun c_9 => ?_)
      · replace h := h.1 c_9
        refine kk_iconst ic_0 e_X7_canDo_23 ?_
        exact kk_sub [] rfl (hJ_8 (0 : Int32) h)
      · replace h := h.2 c_9
        refine kk_iconst ic_1 e_X7_canDo_19 ?_
        refine kk_goto e_X7_canDo_20 ?_
        exact kk_sub [] rfl (hJ_8 (1 : Int32) h)
theorem e_X7_fewest_0 : kk_d cX7_fewest 0 (.aload_n 0) 1 1 := ⟨by decide +kernel, rfl⟩
theorem e_X7_fewest_1 : kk_d cX7_fewest 1 (.getfield 29) 3 4 := ⟨by decide +kernel, rfl⟩
theorem e_X7_fewest_4 : kk_d cX7_fewest 4 (.iconst (-1)) 1 5 := ⟨by decide +kernel, rfl⟩
theorem e_X7_fewest_5 : kk_dj cX7_fewest 5 (.if_icmp .ne 47) 3 (47) 8 52 := ⟨by decide +kernel, rfl, by decide⟩
theorem e_X7_fewest_52 : kk_d cX7_fewest 52 (.aload_n 0) 1 53 := ⟨by decide +kernel, rfl⟩
theorem e_X7_fewest_53 : kk_d cX7_fewest 53 (.getfield 29) 3 56 := ⟨by decide +kernel, rfl⟩
theorem e_X7_fewest_56 : kk_d cX7_fewest 56 .ireturn 1 57 := ⟨by decide +kernel, rfl⟩
theorem e_X7_fewest_8 : kk_d cX7_fewest 8 (.aload_n 0) 1 9 := ⟨by decide +kernel, rfl⟩
theorem e_X7_fewest_9 : kk_d cX7_fewest 9 (.aload_n 0) 1 10 := ⟨by decide +kernel, rfl⟩
theorem e_X7_fewest_10 : kk_d cX7_fewest 10 (.aload_n 0) 1 11 := ⟨by decide +kernel, rfl⟩
theorem e_X7_fewest_11 : kk_d cX7_fewest 11 (.getfield 35) 3 14 := ⟨by decide +kernel, rfl⟩
theorem e_X7_fewest_14 : kk_d cX7_fewest 14 (.invokevirtual 42) 3 17 := ⟨by decide +kernel, rfl⟩
theorem e_X7_fewest_17 : kk_d cX7_fewest 17 (.aload_n 0) 1 18 := ⟨by decide +kernel, rfl⟩
theorem e_X7_fewest_18 : kk_d cX7_fewest 18 (.getfield 35) 3 21 := ⟨by decide +kernel, rfl⟩
theorem e_X7_fewest_21 : kk_d cX7_fewest 21 (.getfield 48) 3 24 := ⟨by decide +kernel, rfl⟩
theorem e_X7_fewest_24 : kk_d cX7_fewest 24 (.invokevirtual 51) 3 27 := ⟨by decide +kernel, rfl⟩
theorem e_X7_fewest_27 : kk_dj cX7_fewest 27 (.ifCond .eq 13) 3 (13) 30 40 := ⟨by decide +kernel, rfl, by decide⟩
theorem e_X7_fewest_49 : kk_d cX7_fewest 49 (.putfield 29) 3 52 := ⟨by decide +kernel, rfl⟩
theorem e_X7_fewest_40 : kk_d cX7_fewest 40 (.aload_n 0) 1 41 := ⟨by decide +kernel, rfl⟩
theorem e_X7_fewest_41 : kk_d cX7_fewest 41 (.getfield 35) 3 44 := ⟨by decide +kernel, rfl⟩
theorem e_X7_fewest_44 : kk_d cX7_fewest 44 (.getfield 48) 3 47 := ⟨by decide +kernel, rfl⟩
theorem e_X7_fewest_47 : kk_d cX7_fewest 47 (.iconst 1) 1 48 := ⟨by decide +kernel, rfl⟩
theorem e_X7_fewest_48 : kk_d cX7_fewest 48 .iadd 1 49 := ⟨by decide +kernel, rfl⟩
theorem e_X7_fewest_30 : kk_d cX7_fewest 30 (.aload_n 0) 1 31 := ⟨by decide +kernel, rfl⟩
theorem e_X7_fewest_31 : kk_d cX7_fewest 31 (.getfield 35) 3 34 := ⟨by decide +kernel, rfl⟩
theorem e_X7_fewest_34 : kk_d cX7_fewest 34 (.getfield 48) 3 37 := ⟨by decide +kernel, rfl⟩
theorem e_X7_fewest_37 : kk_dj cX7_fewest 37 (.goto 12) 3 (12) 40 49 := ⟨by decide +kernel, rfl, by decide⟩
set_option maxRecDepth 4000 in
theorem s_X7_fewest (Z : kk_Z) (σ : kk_St) (Q : Int32 → kk_St → Prop) (h : f_X7_fewest σ Q) : kk_M Z sh_C yX7_fewest cX7_fewest 1 (some .int) (kk_R 67) [.ref (Z.2.1 7)] σ (kk_Qi Z sh_C Q) := by
  unfold f_X7_fewest at h
  refine kk_met (own := RX7) (by decide) rfl (Nat.le_of_ble_eq_true rfl) rfl ?_
  refine kk_aload_n 0 rfl e_X7_fewest_0 ?_
  refine kk_geti e_X7_fewest_1 fl_X7_29 rfl rfl ?_
  refine kk_iconst ic_m1 e_X7_fewest_4 ?_
  refine kk_jW1 (P := fun (σ_1 : kk_St) => KK Z sh_C RX7 cX7_fewest 1 (some .int) (kk_R 67) (kk_Qi Z sh_C Q) 52 [(0, .ref (Z.2.1 7))] [] σ_1) h ?_ ?_
  · intro σ_1 h
    refine kk_aload_n 0 rfl e_X7_fewest_52 ?_
    refine kk_geti e_X7_fewest_53 fl_X7_29 rfl rfl ?_
    exact kk_iret e_X7_fewest_56 h
  · intro J_2 hJ_2 h
    refine kk_icmp_ne e_X7_fewest_5 (fun c_10 => ?_) (fun c_10 => ?_)
    · replace h := h.1 c_10
      exact kk_sub [0] rfl (hJ_2 σ h)
    · replace h := h.2 c_10
      refine kk_aload_n 0 rfl e_X7_fewest_8 ?_
      refine kk_aload_n 0 rfl e_X7_fewest_9 ?_
      refine kk_aload_n 0 rfl e_X7_fewest_10 ?_
      refine kk_getr e_X7_fewest_11 fl_X7_35 rfl rfl ?_
      refine kk_callVip (As := []) (rest := [.ref (Z.2.1 7), .ref (Z.2.1 7)]) e_X7_fewest_14 ml_X7_42 ⟨_, _, _, _, rfl, rfl⟩ rfl (kk_fitR (by decide) (by decide)) (Nat.le_of_ble_eq_true rfl) rfl (s_X6_allLines Z σ _ h) (fun r_3 h => ?_)
      refine kk_aload_n 0 rfl e_X7_fewest_17 ?_
      refine kk_getr e_X7_fewest_18 fl_X7_35 rfl rfl ?_
      refine kk_geti e_X7_fewest_21 fl_X7_48 rfl rfl ?_
      refine kk_callVi (As := [.int r_3, .int (σ.1 1 7)]) (rest := [.ref (Z.2.1 7)]) e_X7_fewest_24 ml_X7_51 ⟨_, _, _, _, rfl, rfl⟩ rfl (kk_fitR (by decide) (by decide)) (Nat.le_of_ble_eq_true rfl) rfl (s_X7_canDo Z r_3 (σ.1 1 7) σ _ h) (fun r_4 σ_5 h => ?_)
      refine kk_jW1 (P := fun (t_6 : Int32) => KK Z sh_C RX7 cX7_fewest 1 (some .int) (kk_R 67) (kk_Qi Z sh_C Q) 49 [(0, .ref (Z.2.1 7))] [.int t_6, .ref (Z.2.1 7)] σ_5) h ?_ ?_
      · intro t_6 h
        refine kk_puti e_X7_fewest_49 fl_X7_29 fn_X7_6 rfl rfl ?_
        refine kk_tops (fun σ_8 eσ_8 => ?_)
        replace h := h σ_8 eσ_8
        exact kk_sub [0] rfl (hJ_2 σ_8 h)
      · intro J_7 hJ_7 h
        refine kk_if_eq e_X7_fewest_27 (fun c_9 => ?_) (fun c_9 => ?_)
        · replace h := h.1 c_9
          refine kk_aload_n 0 rfl e_X7_fewest_40 ?_
          refine kk_getr e_X7_fewest_41 fl_X7_35 rfl rfl ?_
          refine kk_geti e_X7_fewest_44 fl_X7_48 rfl rfl ?_
          refine kk_iconst ic_1 e_X7_fewest_47 ?_
          refine kk_iadd e_X7_fewest_48 ?_
          exact kk_sub [0] rfl (hJ_7 ((σ_5.1 1 7) + (1 : Int32)) h)
        · replace h := h.2 c_9
          refine kk_aload_n 0 rfl e_X7_fewest_30 ?_
          refine kk_getr e_X7_fewest_31 fl_X7_35 rfl rfl ?_
          refine kk_geti e_X7_fewest_34 fl_X7_48 rfl rfl ?_
          refine kk_goto e_X7_fewest_37 ?_
          exact kk_sub [0] rfl (hJ_7 (σ_5.1 1 7) h)
theorem e_X7_dearLines_0 : kk_d cX7_dearLines 0 (.aload_n 0) 1 1 := ⟨by decide +kernel, rfl⟩
theorem e_X7_dearLines_1 : kk_d cX7_dearLines 1 (.getfield 32) 3 4 := ⟨by decide +kernel, rfl⟩
theorem e_X7_dearLines_4 : kk_d cX7_dearLines 4 (.iconst (-1)) 1 5 := ⟨by decide +kernel, rfl⟩
theorem e_X7_dearLines_5 : kk_dj cX7_dearLines 5 (.if_icmp .ne 61) 3 (61) 8 66 := ⟨by decide +kernel, rfl, by decide⟩
theorem e_X7_dearLines_66 : kk_d cX7_dearLines 66 (.aload_n 0) 1 67 := ⟨by decide +kernel, rfl⟩
theorem e_X7_dearLines_67 : kk_d cX7_dearLines 67 (.getfield 32) 3 70 := ⟨by decide +kernel, rfl⟩
theorem e_X7_dearLines_70 : kk_d cX7_dearLines 70 .ireturn 1 71 := ⟨by decide +kernel, rfl⟩
theorem e_X7_dearLines_8 : kk_d cX7_dearLines 8 (.iconst 0) 1 9 := ⟨by decide +kernel, rfl⟩
theorem e_X7_dearLines_9 : kk_d cX7_dearLines 9 (.istore_n 1) 1 10 := ⟨by decide +kernel, rfl⟩
theorem e_X7_dearLines_10 : kk_d cX7_dearLines 10 (.iconst 0) 1 11 := ⟨by decide +kernel, rfl⟩
theorem e_X7_dearLines_11 : kk_d cX7_dearLines 11 (.istore_n 2) 1 12 := ⟨by decide +kernel, rfl⟩
theorem e_X7_dearLines_12 : kk_d cX7_dearLines 12 (.iload_n 2) 1 13 := ⟨by decide +kernel, rfl⟩
theorem e_X7_dearLines_13 : kk_d cX7_dearLines 13 (.aload_n 0) 1 14 := ⟨by decide +kernel, rfl⟩
theorem e_X7_dearLines_14 : kk_d cX7_dearLines 14 (.getfield 35) 3 17 := ⟨by decide +kernel, rfl⟩
theorem e_X7_dearLines_17 : kk_d cX7_dearLines 17 (.getfield 55) 3 20 := ⟨by decide +kernel, rfl⟩
theorem e_X7_dearLines_20 : kk_dj cX7_dearLines 20 (.if_icmp .ge 41) 3 (41) 23 61 := ⟨by decide +kernel, rfl, by decide⟩
theorem e_X7_dearLines_61 : kk_d cX7_dearLines 61 (.aload_n 0) 1 62 := ⟨by decide +kernel, rfl⟩
theorem e_X7_dearLines_62 : kk_d cX7_dearLines 62 (.iload_n 1) 1 63 := ⟨by decide +kernel, rfl⟩
theorem e_X7_dearLines_63 : kk_d cX7_dearLines 63 (.putfield 32) 3 66 := ⟨by decide +kernel, rfl⟩
theorem e_X7_dearLines_23 : kk_d cX7_dearLines 23 (.aload_n 0) 1 24 := ⟨by decide +kernel, rfl⟩
theorem e_X7_dearLines_24 : kk_d cX7_dearLines 24 (.aload_n 0) 1 25 := ⟨by decide +kernel, rfl⟩
theorem e_X7_dearLines_25 : kk_d cX7_dearLines 25 (.getfield 35) 3 28 := ⟨by decide +kernel, rfl⟩
theorem e_X7_dearLines_28 : kk_d cX7_dearLines 28 (.invokevirtual 42) 3 31 := ⟨by decide +kernel, rfl⟩
theorem e_X7_dearLines_31 : kk_d cX7_dearLines 31 (.iconst 1) 1 32 := ⟨by decide +kernel, rfl⟩
theorem e_X7_dearLines_32 : kk_d cX7_dearLines 32 (.iload_n 2) 1 33 := ⟨by decide +kernel, rfl⟩
theorem e_X7_dearLines_33 : kk_d cX7_dearLines 33 .ishl 1 34 := ⟨by decide +kernel, rfl⟩
theorem e_X7_dearLines_34 : kk_d cX7_dearLines 34 (.iconst (-1)) 1 35 := ⟨by decide +kernel, rfl⟩
theorem e_X7_dearLines_35 : kk_d cX7_dearLines 35 .ixor 1 36 := ⟨by decide +kernel, rfl⟩
theorem e_X7_dearLines_36 : kk_d cX7_dearLines 36 .iand 1 37 := ⟨by decide +kernel, rfl⟩
theorem e_X7_dearLines_37 : kk_d cX7_dearLines 37 (.aload_n 0) 1 38 := ⟨by decide +kernel, rfl⟩
theorem e_X7_dearLines_38 : kk_d cX7_dearLines 38 (.invokevirtual 58) 3 41 := ⟨by decide +kernel, rfl⟩
theorem e_X7_dearLines_41 : kk_d cX7_dearLines 41 (.iconst 1) 1 42 := ⟨by decide +kernel, rfl⟩
theorem e_X7_dearLines_42 : kk_d cX7_dearLines 42 .isub 1 43 := ⟨by decide +kernel, rfl⟩
theorem e_X7_dearLines_43 : kk_d cX7_dearLines 43 (.invokevirtual 51) 3 46 := ⟨by decide +kernel, rfl⟩
theorem e_X7_dearLines_46 : kk_dj cX7_dearLines 46 (.ifCond .eq 9) 3 (9) 49 55 := ⟨by decide +kernel, rfl, by decide⟩
theorem e_X7_dearLines_55 : kk_d cX7_dearLines 55 (.iinc 2 1) 3 58 := ⟨by decide +kernel, rfl⟩
theorem e_X7_dearLines_58 : kk_dj cX7_dearLines 58 (.goto (-46)) 3 (-46) 61 12 := ⟨by decide +kernel, rfl, by decide⟩
theorem e_X7_dearLines_49 : kk_d cX7_dearLines 49 (.iload_n 1) 1 50 := ⟨by decide +kernel, rfl⟩
theorem e_X7_dearLines_50 : kk_d cX7_dearLines 50 (.iconst 1) 1 51 := ⟨by decide +kernel, rfl⟩
theorem e_X7_dearLines_51 : kk_d cX7_dearLines 51 (.iload_n 2) 1 52 := ⟨by decide +kernel, rfl⟩
theorem e_X7_dearLines_52 : kk_d cX7_dearLines 52 .ishl 1 53 := ⟨by decide +kernel, rfl⟩
theorem e_X7_dearLines_53 : kk_d cX7_dearLines 53 .ior 1 54 := ⟨by decide +kernel, rfl⟩
theorem e_X7_dearLines_54 : kk_d cX7_dearLines 54 (.istore_n 1) 1 55 := ⟨by decide +kernel, rfl⟩
set_option maxRecDepth 4000 in
theorem s_X7_dearLines (Z : kk_Z) (σ : kk_St) (Q : Int32 → kk_St → Prop) (h : f_X7_dearLines σ Q) : kk_M Z sh_C yX7_dearLines cX7_dearLines 3 (some .int) (kk_R 68) [.ref (Z.2.1 7)] σ (kk_Qi Z sh_C Q) := by
  unfold f_X7_dearLines at h
  refine kk_met (own := RX7) (by decide) rfl (Nat.le_of_ble_eq_true rfl) rfl ?_
  refine kk_aload_n 0 rfl e_X7_dearLines_0 ?_
  refine kk_geti e_X7_dearLines_1 fl_X7_32 rfl rfl ?_
  refine kk_iconst ic_m1 e_X7_dearLines_4 ?_
  refine kk_jW1 (P := fun (σ_1 : kk_St) => KK Z sh_C RX7 cX7_dearLines 3 (some .int) (kk_R 68) (kk_Qi Z sh_C Q) 66 [(0, .ref (Z.2.1 7))] [] σ_1) h ?_ ?_
  · intro σ_1 h
    refine kk_aload_n 0 rfl e_X7_dearLines_66 ?_
    refine kk_geti e_X7_dearLines_67 fl_X7_32 rfl rfl ?_
    exact kk_iret e_X7_dearLines_70 h
  · intro J_2 hJ_2 h
    refine kk_icmp_ne e_X7_dearLines_5 (fun c_18 => ?_) (fun c_18 => ?_)
    · replace h := h.1 c_18
      exact kk_sub [0] rfl (hJ_2 σ h)
    · replace h := h.2 c_18
      refine kk_iconst ic_0 e_X7_dearLines_8 ?_
      refine kk_istore_n (lv' := [(1, .int (0 : Int32)), (0, .ref (Z.2.1 7))]) e_X7_dearLines_9 rfl (by decide) rfl ?_
      refine kk_iconst ic_0 e_X7_dearLines_10 ?_
      refine kk_istore_n (lv' := [(2, .int (0 : Int32)), (1, .int (0 : Int32)), (0, .ref (Z.2.1 7))]) e_X7_dearLines_11 rfl (by decide) rfl ?_
      refine kk_sub [2, 1, 0] rfl ?_
      refine kk_lpW3 (P := fun (v1_3 : Int32) (v2_4 : Int32) (σ_5 : kk_St) => KK Z sh_C RX7 cX7_dearLines 3 (some .int) (kk_R 68) (kk_Qi Z sh_C Q) 12 [(0, .ref (Z.2.1 7)), (1, .int v1_3), (2, .int v2_4)] [] σ_5) ?_ h
      intro rec_6 hrec_6 v1_3 v2_4 σ_5 h
      refine kk_iload_n 2 rfl e_X7_dearLines_12 ?_
      refine kk_aload_n 0 rfl e_X7_dearLines_13 ?_
      refine kk_getr e_X7_dearLines_14 fl_X7_35 rfl rfl ?_
      refine kk_geti e_X7_dearLines_17 fl_X7_55 rfl rfl ?_
      refine kk_icmp_ge e_X7_dearLines_20 (fun c_17 => ?_) (fun c_17 => ?_)
      · replace h := h.1 c_17
        refine kk_aload_n 0 rfl e_X7_dearLines_61 ?_
        refine kk_iload_n 1 rfl e_X7_dearLines_62 ?_
        refine kk_puti e_X7_dearLines_63 fl_X7_32 fn_X7_7 rfl rfl ?_
        refine kk_tops (fun σ_7 eσ_7 => ?_)
        replace h := h σ_7 eσ_7
        exact kk_sub [0] rfl (hJ_2 σ_7 h)
      · replace h := h.2 c_17
        refine kk_aload_n 0 rfl e_X7_dearLines_23 ?_
        refine kk_aload_n 0 rfl e_X7_dearLines_24 ?_
        refine kk_getr e_X7_dearLines_25 fl_X7_35 rfl rfl ?_
        refine kk_callVip (As := []) (rest := [.ref (Z.2.1 7)]) e_X7_dearLines_28 ml_X7_42 ⟨_, _, _, _, rfl, rfl⟩ rfl (kk_fitR (by decide) (by decide)) (Nat.le_of_ble_eq_true rfl) rfl (s_X6_allLines Z σ_5 _ h) (fun r_8 h => ?_)
        refine kk_iconst ic_1 e_X7_dearLines_31 ?_
        refine kk_iload_n 2 rfl e_X7_dearLines_32 ?_
        refine kk_ishl e_X7_dearLines_33 ?_
        refine kk_iconst ic_m1 e_X7_dearLines_34 ?_
        refine kk_ixor e_X7_dearLines_35 ?_
        refine kk_iand e_X7_dearLines_36 ?_
        refine kk_aload_n 0 rfl e_X7_dearLines_37 ?_
        refine kk_callVi (As := []) (rest := [.int (r_8 &&& (((1 : Int32) <<< (v2_4 &&& 31)) ^^^ (-1 : Int32))), .ref (Z.2.1 7)]) e_X7_dearLines_38 ml_X7_58 ⟨_, _, _, _, rfl, rfl⟩ rfl (kk_fitR (by decide) (by decide)) (Nat.le_of_ble_eq_true rfl) rfl (s_X7_fewest Z σ_5 _ h) (fun r_9 σ_10 h => ?_)
        refine kk_iconst ic_1 e_X7_dearLines_41 ?_
        refine kk_isub e_X7_dearLines_42 ?_
        refine kk_callVi (As := [.int (r_8 &&& (((1 : Int32) <<< (v2_4 &&& 31)) ^^^ (-1 : Int32))), .int (r_9 - (1 : Int32))]) (rest := []) e_X7_dearLines_43 ml_X7_51 ⟨_, _, _, _, rfl, rfl⟩ rfl (kk_fitR (by decide) (by decide)) (Nat.le_of_ble_eq_true rfl) rfl (s_X7_canDo Z (r_8 &&& (((1 : Int32) <<< (v2_4 &&& 31)) ^^^ (-1 : Int32))) (r_9 - (1 : Int32)) σ_10 _ h) (fun r_11 σ_12 h => ?_)
        refine kk_jW1 (P := fun (v1_13 : Int32) => KK Z sh_C RX7 cX7_dearLines 3 (some .int) (kk_R 68) (kk_Qi Z sh_C Q) 55 [(0, .ref (Z.2.1 7)), (1, .int v1_13), (2, .int v2_4)] [] σ_12) h ?_ ?_
        · intro v1_13 h
          refine kk_iinc (lv' := [(2, .int (v2_4 + (1 : Int32))), (0, .ref (Z.2.1 7)), (1, .int v1_13)]) e_X7_dearLines_55 (j := 2) rfl (ii_1 v2_4) (by decide) rfl ?_
          refine kk_goto e_X7_dearLines_58 ?_
          exact kk_sub [1, 2, 0] rfl (hrec_6 v1_13 (v2_4 + (1 : Int32)) σ_12 h)
        · intro J_14 hJ_14 h
          refine kk_if_eq e_X7_dearLines_46 (fun c_16 => ?_) (fun c_16 => ?_)
          · replace h := h.1 c_16
            exact kk_sub [0, 1, 2] rfl (hJ_14 v1_3 h)
          · replace h := h.2 c_16
            refine kk_iload_n 1 rfl e_X7_dearLines_49 ?_
            refine kk_iconst ic_1 e_X7_dearLines_50 ?_
            refine kk_iload_n 2 rfl e_X7_dearLines_51 ?_
            refine kk_ishl e_X7_dearLines_52 ?_
            refine kk_ior e_X7_dearLines_53 ?_
            refine kk_topi (fun v1_15 ev1_15 => ?_)
            replace h := h v1_15 ev1_15
            refine kk_istore_n (lv' := [(1, .int v1_15), (0, .ref (Z.2.1 7)), (2, .int v2_4)]) e_X7_dearLines_54 rfl (by decide) rfl ?_
            exact kk_sub [1, 0, 2] rfl (hJ_14 v1_15 h)
theorem e_X10_critical_0 : kk_d cX10_critical 0 (.aload_n 0) 1 1 := ⟨by decide +kernel, rfl⟩
theorem e_X10_critical_1 : kk_d cX10_critical 1 (.getfield 60) 3 4 := ⟨by decide +kernel, rfl⟩
theorem e_X10_critical_4 : kk_d cX10_critical 4 (.invokevirtual 297) 3 7 := ⟨by decide +kernel, rfl⟩
theorem e_X10_critical_7 : kk_d cX10_critical 7 .ireturn 1 8 := ⟨by decide +kernel, rfl⟩
set_option maxRecDepth 4000 in
theorem s_X10_critical (Z : kk_Z) (σ : kk_St) (Q : Int32 → kk_St → Prop) (h : f_X10_critical σ Q) : kk_M Z sh_C yX10_critical cX10_critical 1 (some .int) (kk_R 69) [.ref (Z.2.1 0)] σ (kk_Qi Z sh_C Q) := by
  unfold f_X10_critical at h
  refine kk_met (own := RX10) (by decide) rfl (Nat.le_of_ble_eq_true rfl) rfl ?_
  refine kk_aload_n 0 rfl e_X10_critical_0 ?_
  refine kk_getr e_X10_critical_1 fl_X10_60 rfl rfl ?_
  refine kk_callVi (As := []) (rest := []) e_X10_critical_4 ml_X10_297 ⟨_, _, _, _, rfl, rfl⟩ rfl (kk_fitR (by decide) (by decide)) (Nat.le_of_ble_eq_true rfl) rfl (s_X7_dearLines Z σ _ h) (fun r_1 σ_2 h => ?_)
  exact kk_iret e_X10_critical_7 h
theorem e_X2_greatestUsed_0 : kk_d cX2_greatestUsed 0 (.iconst (-1)) 1 1 := ⟨by decide +kernel, rfl⟩
theorem e_X2_greatestUsed_1 : kk_d cX2_greatestUsed 1 (.istore_n 1) 1 2 := ⟨by decide +kernel, rfl⟩
theorem e_X2_greatestUsed_2 : kk_d cX2_greatestUsed 2 (.iconst 0) 1 3 := ⟨by decide +kernel, rfl⟩
theorem e_X2_greatestUsed_3 : kk_d cX2_greatestUsed 3 (.istore_n 2) 1 4 := ⟨by decide +kernel, rfl⟩
theorem e_X2_greatestUsed_4 : kk_d cX2_greatestUsed 4 (.iload_n 2) 1 5 := ⟨by decide +kernel, rfl⟩
theorem e_X2_greatestUsed_5 : kk_d cX2_greatestUsed 5 (.bipush 9) 2 7 := ⟨by decide +kernel, rfl⟩
theorem e_X2_greatestUsed_7 : kk_dj cX2_greatestUsed 7 (.if_icmp .ge 23) 3 (23) 10 30 := ⟨by decide +kernel, rfl, by decide⟩
theorem e_X2_greatestUsed_30 : kk_d cX2_greatestUsed 30 (.iload_n 1) 1 31 := ⟨by decide +kernel, rfl⟩
theorem e_X2_greatestUsed_31 : kk_d cX2_greatestUsed 31 .ireturn 1 32 := ⟨by decide +kernel, rfl⟩
theorem e_X2_greatestUsed_10 : kk_d cX2_greatestUsed 10 (.aload_n 0) 1 11 := ⟨by decide +kernel, rfl⟩
theorem e_X2_greatestUsed_11 : kk_d cX2_greatestUsed 11 (.getfield 15) 3 14 := ⟨by decide +kernel, rfl⟩
theorem e_X2_greatestUsed_14 : kk_d cX2_greatestUsed 14 (.getfield 19) 3 17 := ⟨by decide +kernel, rfl⟩
theorem e_X2_greatestUsed_17 : kk_d cX2_greatestUsed 17 (.iload_n 2) 1 18 := ⟨by decide +kernel, rfl⟩
theorem e_X2_greatestUsed_18 : kk_d cX2_greatestUsed 18 .iaload 1 19 := ⟨by decide +kernel, rfl⟩
theorem e_X2_greatestUsed_19 : kk_dj cX2_greatestUsed 19 (.ifCond .eq 5) 3 (5) 22 24 := ⟨by decide +kernel, rfl, by decide⟩
theorem e_X2_greatestUsed_24 : kk_d cX2_greatestUsed 24 (.iinc 2 1) 3 27 := ⟨by decide +kernel, rfl⟩
theorem e_X2_greatestUsed_27 : kk_dj cX2_greatestUsed 27 (.goto (-23)) 3 (-23) 30 4 := ⟨by decide +kernel, rfl, by decide⟩
theorem e_X2_greatestUsed_22 : kk_d cX2_greatestUsed 22 (.iload_n 2) 1 23 := ⟨by decide +kernel, rfl⟩
theorem e_X2_greatestUsed_23 : kk_d cX2_greatestUsed 23 (.istore_n 1) 1 24 := ⟨by decide +kernel, rfl⟩
set_option maxRecDepth 4000 in
theorem s_X2_greatestUsed (Z : kk_Z) (σ : kk_St) (Q : Int32 → Prop) (h : f_X2_greatestUsed σ Q) : kk_M Z sh_C yX2_greatestUsed cX2_greatestUsed 3 (some .int) (kk_R 2) [.ref (Z.2.1 5)] σ (kk_Qi Z sh_C (fun r σ' => σ' = σ ∧ Q r)) := by
  unfold f_X2_greatestUsed at h
  refine kk_met (own := RX2) (by decide) rfl (Nat.le_of_ble_eq_true rfl) rfl ?_
  refine kk_iconst ic_m1 e_X2_greatestUsed_0 ?_
  refine kk_istore_n (lv' := [(1, .int (-1 : Int32)), (0, .ref (Z.2.1 5))]) e_X2_greatestUsed_1 rfl (by decide) rfl ?_
  refine kk_iconst ic_0 e_X2_greatestUsed_2 ?_
  refine kk_istore_n (lv' := [(2, .int (0 : Int32)), (1, .int (-1 : Int32)), (0, .ref (Z.2.1 5))]) e_X2_greatestUsed_3 rfl (by decide) rfl ?_
  refine kk_sub [2, 1, 0] rfl ?_
  refine kk_lpW2 (P := fun (v1_1 : Int32) (v2_2 : Int32) => KK Z sh_C RX2 cX2_greatestUsed 3 (some .int) (kk_R 2) (kk_Qi Z sh_C (fun r σ' => σ' = σ ∧ Q r)) 4 [(0, .ref (Z.2.1 5)), (1, .int v1_1), (2, .int v2_2)] [] σ) ?_ h
  intro rec_3 hrec_3 v1_1 v2_2 h
  refine kk_iload_n 2 rfl e_X2_greatestUsed_4 ?_
  refine kk_bipush bp_9 e_X2_greatestUsed_5 ?_
  refine kk_icmp_ge e_X2_greatestUsed_7 (fun c_7 => ?_) (fun c_7 => ?_)
  · replace h := h.1 c_7
    refine kk_iload_n 1 rfl e_X2_greatestUsed_30 ?_
    exact kk_iret e_X2_greatestUsed_31 ⟨rfl, h⟩
  · replace h := h.2 c_7
    refine kk_aload_n 0 rfl e_X2_greatestUsed_10 ?_
    refine kk_getr e_X2_greatestUsed_11 fl_X2_15 rfl rfl ?_
    refine kk_getr e_X2_greatestUsed_14 fl_X2_19 rfl rfl ?_
    refine kk_iload_n 2 rfl e_X2_greatestUsed_17 ?_
    refine kk_iald e_X2_greatestUsed_18 rfl h.1 ?_
    replace h := h.2
    refine kk_jW1 (P := fun (v1_4 : Int32) => KK Z sh_C RX2 cX2_greatestUsed 3 (some .int) (kk_R 2) (kk_Qi Z sh_C (fun r σ' => σ' = σ ∧ Q r)) 24 [(0, .ref (Z.2.1 5)), (1, .int v1_4), (2, .int v2_2)] [] σ) h ?_ ?_
    · intro v1_4 h
      refine kk_iinc (lv' := [(2, .int (v2_2 + (1 : Int32))), (0, .ref (Z.2.1 5)), (1, .int v1_4)]) e_X2_greatestUsed_24 (j := 2) rfl (ii_1 v2_2) (by decide) rfl ?_
      refine kk_goto e_X2_greatestUsed_27 ?_
      exact kk_sub [1, 2, 0] rfl (hrec_3 v1_4 (v2_2 + (1 : Int32)) h)
    · intro J_5 hJ_5 h
      refine kk_if_eq e_X2_greatestUsed_19 (fun c_6 => ?_) (fun c_6 => ?_)
      · replace h := h.1 c_6
        exact kk_sub [0, 1, 2] rfl (hJ_5 v1_1 h)
      · replace h := h.2 c_6
        refine kk_iload_n 2 rfl e_X2_greatestUsed_22 ?_
        refine kk_istore_n (lv' := [(1, .int v2_2), (0, .ref (Z.2.1 5)), (2, .int v2_2)]) e_X2_greatestUsed_23 rfl (by decide) rfl ?_
        exact kk_sub [1, 0, 2] rfl (hJ_5 v2_2 h)
theorem e_X2_howMany_0 : kk_d cX2_howMany 0 (.aload_n 0) 1 1 := ⟨by decide +kernel, rfl⟩
theorem e_X2_howMany_1 : kk_d cX2_howMany 1 (.getfield 15) 3 4 := ⟨by decide +kernel, rfl⟩
theorem e_X2_howMany_4 : kk_d cX2_howMany 4 (.getfield 19) 3 7 := ⟨by decide +kernel, rfl⟩
theorem e_X2_howMany_7 : kk_d cX2_howMany 7 (.iload_n 1) 1 8 := ⟨by decide +kernel, rfl⟩
theorem e_X2_howMany_8 : kk_d cX2_howMany 8 .iaload 1 9 := ⟨by decide +kernel, rfl⟩
theorem e_X2_howMany_9 : kk_d cX2_howMany 9 (.invokestatic 35) 3 12 := ⟨by decide +kernel, rfl⟩
theorem e_X2_howMany_12 : kk_d cX2_howMany 12 .ireturn 1 13 := ⟨by decide +kernel, rfl⟩
set_option maxRecDepth 4000 in
theorem s_X2_howMany (Z : kk_Z) (v1 : Int32) (σ : kk_St) (Q : Int32 → Prop) (h : f_X2_howMany v1 σ Q) : kk_M Z sh_C yX2_howMany cX2_howMany 2 (some .int) (kk_R 3) [.ref (Z.2.1 5), .int v1] σ (kk_Qi Z sh_C (fun r σ' => σ' = σ ∧ Q r)) := by
  unfold f_X2_howMany at h
  refine kk_met (own := RX2) (by decide) rfl (Nat.le_of_ble_eq_true rfl) rfl ?_
  refine kk_aload_n 0 rfl e_X2_howMany_0 ?_
  refine kk_getr e_X2_howMany_1 fl_X2_15 rfl rfl ?_
  refine kk_getr e_X2_howMany_4 fl_X2_19 rfl rfl ?_
  refine kk_iload_n 1 rfl e_X2_howMany_7 ?_
  refine kk_iald e_X2_howMany_8 rfl h.1 ?_
  replace h := h.2
  refine kk_callSip (As := [.int (kk_rd σ 17 v1)]) (rest := []) e_X2_howMany_9 ml_X2_35 rfl (kk_fitR (by decide) (by decide)) (Nat.le_of_ble_eq_true rfl) rfl (s_J6_bitCount_0f7a4 Z (kk_rd σ 17 v1) σ _ h) (fun r_1 h => ?_)
  exact kk_iret e_X2_howMany_12 ⟨rfl, h⟩
theorem e_X2_leaningChain_0 : kk_d cX2_leaningChain 0 (.aload_n 0) 1 1 := ⟨by decide +kernel, rfl⟩
theorem e_X2_leaningChain_1 : kk_d cX2_leaningChain 1 (.getfield 15) 3 4 := ⟨by decide +kernel, rfl⟩
theorem e_X2_leaningChain_4 : kk_d cX2_leaningChain 4 (.getfield 19) 3 7 := ⟨by decide +kernel, rfl⟩
theorem e_X2_leaningChain_7 : kk_d cX2_leaningChain 7 (.iload_n 1) 1 8 := ⟨by decide +kernel, rfl⟩
theorem e_X2_leaningChain_8 : kk_d cX2_leaningChain 8 .iaload 1 9 := ⟨by decide +kernel, rfl⟩
theorem e_X2_leaningChain_9 : kk_d cX2_leaningChain 9 (.aload_n 0) 1 10 := ⟨by decide +kernel, rfl⟩
theorem e_X2_leaningChain_10 : kk_d cX2_leaningChain 10 (.getfield 15) 3 13 := ⟨by decide +kernel, rfl⟩
theorem e_X2_leaningChain_13 : kk_d cX2_leaningChain 13 (.getfield 19) 3 16 := ⟨by decide +kernel, rfl⟩
theorem e_X2_leaningChain_16 : kk_d cX2_leaningChain 16 (.iload_n 2) 1 17 := ⟨by decide +kernel, rfl⟩
theorem e_X2_leaningChain_17 : kk_d cX2_leaningChain 17 .iaload 1 18 := ⟨by decide +kernel, rfl⟩
theorem e_X2_leaningChain_18 : kk_d cX2_leaningChain 18 .ior 1 19 := ⟨by decide +kernel, rfl⟩
theorem e_X2_leaningChain_19 : kk_d cX2_leaningChain 19 (.istore_n 3) 1 20 := ⟨by decide +kernel, rfl⟩
theorem e_X2_leaningChain_20 : kk_d cX2_leaningChain 20 (.iload_n 3) 1 21 := ⟨by decide +kernel, rfl⟩
theorem e_X2_leaningChain_21 : kk_d cX2_leaningChain 21 (.istore 4) 2 23 := ⟨by decide +kernel, rfl⟩
theorem e_X2_leaningChain_23 : kk_d cX2_leaningChain 23 (.iconst 0) 1 24 := ⟨by decide +kernel, rfl⟩
theorem e_X2_leaningChain_24 : kk_d cX2_leaningChain 24 (.istore 5) 2 26 := ⟨by decide +kernel, rfl⟩
theorem e_X2_leaningChain_26 : kk_d cX2_leaningChain 26 (.iload 5) 2 28 := ⟨by decide +kernel, rfl⟩
theorem e_X2_leaningChain_28 : kk_d cX2_leaningChain 28 (.aload_n 0) 1 29 := ⟨by decide +kernel, rfl⟩
theorem e_X2_leaningChain_29 : kk_d cX2_leaningChain 29 (.getfield 9) 3 32 := ⟨by decide +kernel, rfl⟩
theorem e_X2_leaningChain_32 : kk_d cX2_leaningChain 32 (.getfield 25) 3 35 := ⟨by decide +kernel, rfl⟩
theorem e_X2_leaningChain_35 : kk_dj cX2_leaningChain 35 (.if_icmp .ge 78) 3 (78) 38 113 := ⟨by decide +kernel, rfl, by decide⟩
theorem e_X2_leaningChain_113 : kk_d cX2_leaningChain 113 (.iconst 0) 1 114 := ⟨by decide +kernel, rfl⟩
theorem e_X2_leaningChain_114 : kk_d cX2_leaningChain 114 .ireturn 1 115 := ⟨by decide +kernel, rfl⟩
theorem e_X2_leaningChain_38 : kk_d cX2_leaningChain 38 (.iload 4) 2 40 := ⟨by decide +kernel, rfl⟩
theorem e_X2_leaningChain_40 : kk_d cX2_leaningChain 40 (.iload 5) 2 42 := ⟨by decide +kernel, rfl⟩
theorem e_X2_leaningChain_42 : kk_d cX2_leaningChain 42 .ishr 1 43 := ⟨by decide +kernel, rfl⟩
theorem e_X2_leaningChain_43 : kk_d cX2_leaningChain 43 (.iconst 1) 1 44 := ⟨by decide +kernel, rfl⟩
theorem e_X2_leaningChain_44 : kk_d cX2_leaningChain 44 .iand 1 45 := ⟨by decide +kernel, rfl⟩
theorem e_X2_leaningChain_45 : kk_dj cX2_leaningChain 45 (.ifCond .eq 62) 3 (62) 48 107 := ⟨by decide +kernel, rfl, by decide⟩
theorem e_X2_leaningChain_107 : kk_d cX2_leaningChain 107 (.iinc 5 1) 3 110 := ⟨by decide +kernel, rfl⟩
theorem e_X2_leaningChain_110 : kk_dj cX2_leaningChain 110 (.goto (-84)) 3 (-84) 113 26 := ⟨by decide +kernel, rfl, by decide⟩
theorem e_X2_leaningChain_48 : kk_d cX2_leaningChain 48 (.aload_n 0) 1 49 := ⟨by decide +kernel, rfl⟩
theorem e_X2_leaningChain_49 : kk_d cX2_leaningChain 49 (.getfield 9) 3 52 := ⟨by decide +kernel, rfl⟩
theorem e_X2_leaningChain_52 : kk_d cX2_leaningChain 52 (.iconst 1) 1 53 := ⟨by decide +kernel, rfl⟩
theorem e_X2_leaningChain_53 : kk_d cX2_leaningChain 53 (.iload 5) 2 55 := ⟨by decide +kernel, rfl⟩
theorem e_X2_leaningChain_55 : kk_d cX2_leaningChain 55 .ishl 1 56 := ⟨by decide +kernel, rfl⟩
theorem e_X2_leaningChain_56 : kk_d cX2_leaningChain 56 (.iload_n 3) 1 57 := ⟨by decide +kernel, rfl⟩
theorem e_X2_leaningChain_57 : kk_d cX2_leaningChain 57 (.invokevirtual 31) 3 60 := ⟨by decide +kernel, rfl⟩
theorem e_X2_leaningChain_60 : kk_d cX2_leaningChain 60 (.istore 6) 2 62 := ⟨by decide +kernel, rfl⟩
theorem e_X2_leaningChain_62 : kk_d cX2_leaningChain 62 (.iload 4) 2 64 := ⟨by decide +kernel, rfl⟩
theorem e_X2_leaningChain_64 : kk_d cX2_leaningChain 64 (.iload 6) 2 66 := ⟨by decide +kernel, rfl⟩
theorem e_X2_leaningChain_66 : kk_d cX2_leaningChain 66 (.iconst (-1)) 1 67 := ⟨by decide +kernel, rfl⟩
theorem e_X2_leaningChain_67 : kk_d cX2_leaningChain 67 .ixor 1 68 := ⟨by decide +kernel, rfl⟩
theorem e_X2_leaningChain_68 : kk_d cX2_leaningChain 68 .iand 1 69 := ⟨by decide +kernel, rfl⟩
theorem e_X2_leaningChain_69 : kk_d cX2_leaningChain 69 (.istore 4) 2 71 := ⟨by decide +kernel, rfl⟩
theorem e_X2_leaningChain_71 : kk_d cX2_leaningChain 71 (.iload 6) 2 73 := ⟨by decide +kernel, rfl⟩
theorem e_X2_leaningChain_73 : kk_d cX2_leaningChain 73 (.aload_n 0) 1 74 := ⟨by decide +kernel, rfl⟩
theorem e_X2_leaningChain_74 : kk_d cX2_leaningChain 74 (.getfield 15) 3 77 := ⟨by decide +kernel, rfl⟩
theorem e_X2_leaningChain_77 : kk_d cX2_leaningChain 77 (.getfield 19) 3 80 := ⟨by decide +kernel, rfl⟩
theorem e_X2_leaningChain_80 : kk_d cX2_leaningChain 80 (.iload_n 1) 1 81 := ⟨by decide +kernel, rfl⟩
theorem e_X2_leaningChain_81 : kk_d cX2_leaningChain 81 .iaload 1 82 := ⟨by decide +kernel, rfl⟩
theorem e_X2_leaningChain_82 : kk_d cX2_leaningChain 82 .iand 1 83 := ⟨by decide +kernel, rfl⟩
theorem e_X2_leaningChain_83 : kk_d cX2_leaningChain 83 (.invokestatic 35) 3 86 := ⟨by decide +kernel, rfl⟩
theorem e_X2_leaningChain_86 : kk_d cX2_leaningChain 86 (.iload 6) 2 88 := ⟨by decide +kernel, rfl⟩
theorem e_X2_leaningChain_88 : kk_d cX2_leaningChain 88 (.aload_n 0) 1 89 := ⟨by decide +kernel, rfl⟩
theorem e_X2_leaningChain_89 : kk_d cX2_leaningChain 89 (.getfield 15) 3 92 := ⟨by decide +kernel, rfl⟩
theorem e_X2_leaningChain_92 : kk_d cX2_leaningChain 92 (.getfield 19) 3 95 := ⟨by decide +kernel, rfl⟩
theorem e_X2_leaningChain_95 : kk_d cX2_leaningChain 95 (.iload_n 2) 1 96 := ⟨by decide +kernel, rfl⟩
theorem e_X2_leaningChain_96 : kk_d cX2_leaningChain 96 .iaload 1 97 := ⟨by decide +kernel, rfl⟩
theorem e_X2_leaningChain_97 : kk_d cX2_leaningChain 97 .iand 1 98 := ⟨by decide +kernel, rfl⟩
theorem e_X2_leaningChain_98 : kk_d cX2_leaningChain 98 (.invokestatic 35) 3 101 := ⟨by decide +kernel, rfl⟩
theorem e_X2_leaningChain_101 : kk_dj cX2_leaningChain 101 (.if_icmp .le 6) 3 (6) 104 107 := ⟨by decide +kernel, rfl, by decide⟩
theorem e_X2_leaningChain_104 : kk_d cX2_leaningChain 104 (.iload 6) 2 106 := ⟨by decide +kernel, rfl⟩
theorem e_X2_leaningChain_106 : kk_d cX2_leaningChain 106 .ireturn 1 107 := ⟨by decide +kernel, rfl⟩
set_option maxRecDepth 4000 in
theorem s_X2_leaningChain (Z : kk_Z) (v1 : Int32) (v2 : Int32) (σ : kk_St) (Q : Int32 → Prop) (h : f_X2_leaningChain v1 v2 σ Q) : kk_M Z sh_C yX2_leaningChain cX2_leaningChain 7 (some .int) (kk_R 4) [.ref (Z.2.1 5), .int v1, .int v2] σ (kk_Qi Z sh_C (fun r σ' => σ' = σ ∧ Q r)) := by
  unfold f_X2_leaningChain at h
  refine kk_met (own := RX2) (by decide) rfl (Nat.le_of_ble_eq_true rfl) rfl ?_
  refine kk_aload_n 0 rfl e_X2_leaningChain_0 ?_
  refine kk_getr e_X2_leaningChain_1 fl_X2_15 rfl rfl ?_
  refine kk_getr e_X2_leaningChain_4 fl_X2_19 rfl rfl ?_
  refine kk_iload_n 1 rfl e_X2_leaningChain_7 ?_
  refine kk_iald e_X2_leaningChain_8 rfl h.1 ?_
  replace h := h.2
  refine kk_aload_n 0 rfl e_X2_leaningChain_9 ?_
  refine kk_getr e_X2_leaningChain_10 fl_X2_15 rfl rfl ?_
  refine kk_getr e_X2_leaningChain_13 fl_X2_19 rfl rfl ?_
  refine kk_iload_n 2 rfl e_X2_leaningChain_16 ?_
  refine kk_iald e_X2_leaningChain_17 rfl h.1 ?_
  replace h := h.2
  refine kk_ior e_X2_leaningChain_18 ?_
  refine kk_topi (fun v3_1 ev3_1 => ?_)
  replace h := h v3_1 ev3_1
  refine kk_istore_n (lv' := [(3, .int v3_1), (0, .ref (Z.2.1 5)), (1, .int v1), (2, .int v2)]) e_X2_leaningChain_19 rfl (by decide) rfl ?_
  refine kk_iload_n 0 rfl e_X2_leaningChain_20 ?_
  refine kk_istore (lv' := [(4, .int v3_1), (3, .int v3_1), (0, .ref (Z.2.1 5)), (1, .int v1), (2, .int v2)]) e_X2_leaningChain_21 (by decide) rfl ?_
  refine kk_iconst ic_0 e_X2_leaningChain_23 ?_
  refine kk_istore (lv' := [(5, .int (0 : Int32)), (4, .int v3_1), (3, .int v3_1), (0, .ref (Z.2.1 5)), (1, .int v1), (2, .int v2)]) e_X2_leaningChain_24 (by decide) rfl ?_
  refine kk_sub [3, 4, 5, 2, 1, 0] rfl ?_
  refine kk_lpW2 (P := fun (v4_2 : Int32) (v5_3 : Int32) => KK Z sh_C RX2 cX2_leaningChain 7 (some .int) (kk_R 4) (kk_Qi Z sh_C (fun r σ' => σ' = σ ∧ Q r)) 26 [(0, .ref (Z.2.1 5)), (1, .int v1), (2, .int v2), (3, .int v3_1), (4, .int v4_2), (5, .int v5_3)] [] σ) ?_ h
  intro rec_4 hrec_4 v4_2 v5_3 h
  refine kk_iload 5 rfl e_X2_leaningChain_26 ?_
  refine kk_aload_n 0 rfl e_X2_leaningChain_28 ?_
  refine kk_getr e_X2_leaningChain_29 fl_X2_9 rfl rfl ?_
  refine kk_geti e_X2_leaningChain_32 fl_X2_25 rfl rfl ?_
  refine kk_icmp_ge e_X2_leaningChain_35 (fun c_13 => ?_) (fun c_13 => ?_)
  · replace h := h.1 c_13
    refine kk_iconst ic_0 e_X2_leaningChain_113 ?_
    exact kk_iret e_X2_leaningChain_114 ⟨rfl, h⟩
  · replace h := h.2 c_13
    refine kk_iload 4 rfl e_X2_leaningChain_38 ?_
    refine kk_iload 5 rfl e_X2_leaningChain_40 ?_
    refine kk_ishr e_X2_leaningChain_42 ?_
    refine kk_iconst ic_1 e_X2_leaningChain_43 ?_
    refine kk_iand e_X2_leaningChain_44 ?_
    refine kk_jW1 (P := fun (v4_5 : Int32) => KK Z sh_C RX2 cX2_leaningChain 7 (some .int) (kk_R 4) (kk_Qi Z sh_C (fun r σ' => σ' = σ ∧ Q r)) 107 [(0, .ref (Z.2.1 5)), (1, .int v1), (2, .int v2), (3, .int v3_1), (4, .int v4_5), (5, .int v5_3)] [] σ) h ?_ ?_
    · intro v4_5 h
      refine kk_iinc (lv' := [(5, .int (v5_3 + (1 : Int32))), (0, .ref (Z.2.1 5)), (1, .int v1), (2, .int v2), (3, .int v3_1), (4, .int v4_5)]) e_X2_leaningChain_107 (j := 5) rfl (ii_1 v5_3) (by decide) rfl ?_
      refine kk_goto e_X2_leaningChain_110 ?_
      exact kk_sub [1, 2, 3, 4, 5, 0] rfl (hrec_4 v4_5 (v5_3 + (1 : Int32)) h)
    · intro J_6 hJ_6 h
      refine kk_if_eq e_X2_leaningChain_45 (fun c_12 => ?_) (fun c_12 => ?_)
      · replace h := h.1 c_12
        exact kk_sub [0, 1, 2, 3, 4, 5] rfl (hJ_6 v4_2 h)
      · replace h := h.2 c_12
        refine kk_aload_n 0 rfl e_X2_leaningChain_48 ?_
        refine kk_getr e_X2_leaningChain_49 fl_X2_9 rfl rfl ?_
        refine kk_iconst ic_1 e_X2_leaningChain_52 ?_
        refine kk_iload 5 rfl e_X2_leaningChain_53 ?_
        refine kk_ishl e_X2_leaningChain_55 ?_
        refine kk_iload_n 3 rfl e_X2_leaningChain_56 ?_
        refine kk_callVip (As := [.int ((1 : Int32) <<< (v5_3 &&& 31)), .int v3_1]) (rest := []) e_X2_leaningChain_57 ml_X2_31 ⟨_, _, _, _, rfl, rfl⟩ rfl (kk_fitR (by decide) (by decide)) (Nat.le_of_ble_eq_true rfl) rfl (s_X6_joined Z ((1 : Int32) <<< (v5_3 &&& 31)) v3_1 σ _ h) (fun r_7 h => ?_)
        refine kk_istore (lv' := [(6, .int r_7), (0, .ref (Z.2.1 5)), (1, .int v1), (2, .int v2), (3, .int v3_1), (4, .int v4_2), (5, .int v5_3)]) e_X2_leaningChain_60 (by decide) rfl ?_
        refine kk_iload 5 rfl e_X2_leaningChain_62 ?_
        refine kk_iload 0 rfl e_X2_leaningChain_64 ?_
        refine kk_iconst ic_m1 e_X2_leaningChain_66 ?_
        refine kk_ixor e_X2_leaningChain_67 ?_
        refine kk_iand e_X2_leaningChain_68 ?_
        refine kk_topi (fun v4_8 ev4_8 => ?_)
        replace h := h v4_8 ev4_8
        refine kk_istore (lv' := [(4, .int v4_8), (6, .int r_7), (0, .ref (Z.2.1 5)), (1, .int v1), (2, .int v2), (3, .int v3_1), (5, .int v5_3)]) e_X2_leaningChain_69 (by decide) rfl ?_
        refine kk_iload 1 rfl e_X2_leaningChain_71 ?_
        refine kk_aload_n 2 rfl e_X2_leaningChain_73 ?_
        refine kk_getr e_X2_leaningChain_74 fl_X2_15 rfl rfl ?_
        refine kk_getr e_X2_leaningChain_77 fl_X2_19 rfl rfl ?_
        refine kk_iload_n 3 rfl e_X2_leaningChain_80 ?_
        refine kk_iald e_X2_leaningChain_81 rfl h.1 ?_
        replace h := h.2
        refine kk_iand e_X2_leaningChain_82 ?_
        refine kk_callSip (As := [.int (r_7 &&& (kk_rd σ 17 v1))]) (rest := []) e_X2_leaningChain_83 ml_X2_35 rfl (kk_fitR (by decide) (by decide)) (Nat.le_of_ble_eq_true rfl) rfl (s_J6_bitCount_0f7a4 Z (r_7 &&& (kk_rd σ 17 v1)) σ _ h) (fun r_9 h => ?_)
        refine kk_iload 1 rfl e_X2_leaningChain_86 ?_
        refine kk_aload_n 2 rfl e_X2_leaningChain_88 ?_
        refine kk_getr e_X2_leaningChain_89 fl_X2_15 rfl rfl ?_
        refine kk_getr e_X2_leaningChain_92 fl_X2_19 rfl rfl ?_
        refine kk_iload_n 4 rfl e_X2_leaningChain_95 ?_
        refine kk_iald e_X2_leaningChain_96 rfl h.1 ?_
        replace h := h.2
        refine kk_iand e_X2_leaningChain_97 ?_
        refine kk_callSip (As := [.int (r_7 &&& (kk_rd σ 17 v2))]) (rest := [.int r_9]) e_X2_leaningChain_98 ml_X2_35 rfl (kk_fitR (by decide) (by decide)) (Nat.le_of_ble_eq_true rfl) rfl (s_J6_bitCount_0f7a4 Z (r_7 &&& (kk_rd σ 17 v2)) σ _ h) (fun r_10 h => ?_)
        refine kk_icmp_le e_X2_leaningChain_101 (fun c_11 => ?_) (fun c_11 => ?_)
        · replace h := h.1 c_11
          exact kk_sub [2, 3, 4, 5, 0, 6] rfl (hJ_6 v4_8 h)
        · replace h := h.2 c_11
          refine kk_iload 1 rfl e_X2_leaningChain_104 ?_
          exact kk_iret e_X2_leaningChain_106 ⟨rfl, h⟩
theorem e_X3_flip_0 : kk_d cX3_flip 0 (.aload_n 0) 1 1 := ⟨by decide +kernel, rfl⟩
theorem e_X3_flip_1 : kk_d cX3_flip 1 (.getfield 15) 3 4 := ⟨by decide +kernel, rfl⟩
theorem e_X3_flip_4 : kk_d cX3_flip 4 (.iload_n 2) 1 5 := ⟨by decide +kernel, rfl⟩
theorem e_X3_flip_5 : kk_d cX3_flip 5 .dup2 1 6 := ⟨by decide +kernel, rfl⟩
theorem e_X3_flip_6 : kk_d cX3_flip 6 .iaload 1 7 := ⟨by decide +kernel, rfl⟩
theorem e_X3_flip_7 : kk_d cX3_flip 7 (.iload_n 1) 1 8 := ⟨by decide +kernel, rfl⟩
theorem e_X3_flip_8 : kk_d cX3_flip 8 .ixor 1 9 := ⟨by decide +kernel, rfl⟩
theorem e_X3_flip_9 : kk_d cX3_flip 9 .iastore 1 10 := ⟨by decide +kernel, rfl⟩
theorem e_X3_flip_10 : kk_d cX3_flip 10 (.aload_n 0) 1 11 := ⟨by decide +kernel, rfl⟩
theorem e_X3_flip_11 : kk_d cX3_flip 11 (.getfield 15) 3 14 := ⟨by decide +kernel, rfl⟩
theorem e_X3_flip_14 : kk_d cX3_flip 14 (.iload_n 3) 1 15 := ⟨by decide +kernel, rfl⟩
theorem e_X3_flip_15 : kk_d cX3_flip 15 .dup2 1 16 := ⟨by decide +kernel, rfl⟩
theorem e_X3_flip_16 : kk_d cX3_flip 16 .iaload 1 17 := ⟨by decide +kernel, rfl⟩
theorem e_X3_flip_17 : kk_d cX3_flip 17 (.iload_n 1) 1 18 := ⟨by decide +kernel, rfl⟩
theorem e_X3_flip_18 : kk_d cX3_flip 18 .ixor 1 19 := ⟨by decide +kernel, rfl⟩
theorem e_X3_flip_19 : kk_d cX3_flip 19 .iastore 1 20 := ⟨by decide +kernel, rfl⟩
theorem e_X3_flip_20 : kk_d cX3_flip 20 (.iconst 0) 1 21 := ⟨by decide +kernel, rfl⟩
theorem e_X3_flip_21 : kk_d cX3_flip 21 (.istore 4) 2 23 := ⟨by decide +kernel, rfl⟩
theorem e_X3_flip_23 : kk_d cX3_flip 23 (.iload 4) 2 25 := ⟨by decide +kernel, rfl⟩
theorem e_X3_flip_25 : kk_d cX3_flip 25 (.aload_n 0) 1 26 := ⟨by decide +kernel, rfl⟩
theorem e_X3_flip_26 : kk_d cX3_flip 26 (.getfield 18) 3 29 := ⟨by decide +kernel, rfl⟩
theorem e_X3_flip_29 : kk_d cX3_flip 29 (.getfield 85) 3 32 := ⟨by decide +kernel, rfl⟩
theorem e_X3_flip_32 : kk_dj cX3_flip 32 (.if_icmp .ge 41) 3 (41) 35 73 := ⟨by decide +kernel, rfl, by decide⟩
theorem e_X3_flip_73 : kk_d cX3_flip 73 .return_ 1 74 := ⟨by decide +kernel, rfl⟩
theorem e_X3_flip_35 : kk_d cX3_flip 35 (.iload_n 1) 1 36 := ⟨by decide +kernel, rfl⟩
theorem e_X3_flip_36 : kk_d cX3_flip 36 (.iload 4) 2 38 := ⟨by decide +kernel, rfl⟩
theorem e_X3_flip_38 : kk_d cX3_flip 38 .ishr 1 39 := ⟨by decide +kernel, rfl⟩
theorem e_X3_flip_39 : kk_d cX3_flip 39 (.iconst 1) 1 40 := ⟨by decide +kernel, rfl⟩
theorem e_X3_flip_40 : kk_d cX3_flip 40 .iand 1 41 := ⟨by decide +kernel, rfl⟩
theorem e_X3_flip_41 : kk_dj cX3_flip 41 (.ifCond .eq 26) 3 (26) 44 67 := ⟨by decide +kernel, rfl, by decide⟩
theorem e_X3_flip_67 : kk_d cX3_flip 67 (.iinc 4 1) 3 70 := ⟨by decide +kernel, rfl⟩
theorem e_X3_flip_70 : kk_dj cX3_flip 70 (.goto (-47)) 3 (-47) 73 23 := ⟨by decide +kernel, rfl, by decide⟩
theorem e_X3_flip_44 : kk_d cX3_flip 44 (.aload_n 0) 1 45 := ⟨by decide +kernel, rfl⟩
theorem e_X3_flip_45 : kk_d cX3_flip 45 (.getfield 9) 3 48 := ⟨by decide +kernel, rfl⟩
theorem e_X3_flip_48 : kk_d cX3_flip 48 (.iload 4) 2 50 := ⟨by decide +kernel, rfl⟩
theorem e_X3_flip_50 : kk_d cX3_flip 50 (.aload_n 0) 1 51 := ⟨by decide +kernel, rfl⟩
theorem e_X3_flip_51 : kk_d cX3_flip 51 (.getfield 9) 3 54 := ⟨by decide +kernel, rfl⟩
theorem e_X3_flip_54 : kk_d cX3_flip 54 (.iload 4) 2 56 := ⟨by decide +kernel, rfl⟩
theorem e_X3_flip_56 : kk_d cX3_flip 56 .iaload 1 57 := ⟨by decide +kernel, rfl⟩
theorem e_X3_flip_57 : kk_d cX3_flip 57 (.iload_n 2) 1 58 := ⟨by decide +kernel, rfl⟩
theorem e_X3_flip_58 : kk_dj cX3_flip 58 (.if_icmp .ne 7) 3 (7) 61 65 := ⟨by decide +kernel, rfl, by decide⟩
theorem e_X3_flip_66 : kk_d cX3_flip 66 .iastore 1 67 := ⟨by decide +kernel, rfl⟩
theorem e_X3_flip_65 : kk_d cX3_flip 65 (.iload_n 2) 1 66 := ⟨by decide +kernel, rfl⟩
theorem e_X3_flip_61 : kk_d cX3_flip 61 (.iload_n 3) 1 62 := ⟨by decide +kernel, rfl⟩
theorem e_X3_flip_62 : kk_dj cX3_flip 62 (.goto 4) 3 (4) 65 66 := ⟨by decide +kernel, rfl, by decide⟩
set_option maxRecDepth 4000 in
theorem s_X3_flip (Z : kk_Z) (v1 : Int32) (v2 : Int32) (v3 : Int32) (σ : kk_St) (Q : kk_St → Prop) (h : f_X3_flip v1 v2 v3 σ Q) : kk_M Z sh_C yX3_flip cX3_flip 5 none (kk_R 2) [.ref (Z.2.1 2), .int v1, .int v2, .int v3] σ (kk_Qv Z sh_C Q) := by
  unfold f_X3_flip at h
  refine kk_met (own := RX3) (by decide) rfl (Nat.le_of_ble_eq_true rfl) rfl ?_
  refine kk_aload_n 0 rfl e_X3_flip_0 ?_
  refine kk_getr e_X3_flip_1 fl_X3_15 rfl rfl ?_
  refine kk_iload_n 2 rfl e_X3_flip_4 ?_
  refine kk_dup2 rfl rfl e_X3_flip_5 ?_
  refine kk_iald e_X3_flip_6 rfl h.1 ?_
  replace h := h.2
  refine kk_iload_n 1 rfl e_X3_flip_7 ?_
  refine kk_ixor e_X3_flip_8 ?_
  refine kk_iast e_X3_flip_9 rfl h.1 ?_
  replace h := h.2
  refine kk_tops (fun σ_1 eσ_1 => ?_)
  replace h := h σ_1 eσ_1
  refine kk_aload_n 0 rfl e_X3_flip_10 ?_
  refine kk_getr e_X3_flip_11 fl_X3_15 rfl rfl ?_
  refine kk_iload_n 3 rfl e_X3_flip_14 ?_
  refine kk_dup2 rfl rfl e_X3_flip_15 ?_
  refine kk_iald e_X3_flip_16 rfl h.1 ?_
  replace h := h.2
  refine kk_iload_n 1 rfl e_X3_flip_17 ?_
  refine kk_ixor e_X3_flip_18 ?_
  refine kk_iast e_X3_flip_19 rfl h.1 ?_
  replace h := h.2
  refine kk_tops (fun σ_2 eσ_2 => ?_)
  replace h := h σ_2 eσ_2
  refine kk_iconst ic_0 e_X3_flip_20 ?_
  refine kk_istore (lv' := [(4, .int (0 : Int32)), (0, .ref (Z.2.1 2)), (1, .int v1), (2, .int v2), (3, .int v3)]) e_X3_flip_21 (by decide) rfl ?_
  refine kk_sub [1, 2, 3, 4, 0] rfl ?_
  refine kk_lpW2 (P := fun (v4_3 : Int32) (σ_4 : kk_St) => KK Z sh_C RX3 cX3_flip 5 none (kk_R 2) (kk_Qv Z sh_C Q) 23 [(0, .ref (Z.2.1 2)), (1, .int v1), (2, .int v2), (3, .int v3), (4, .int v4_3)] [] σ_4) ?_ h
  intro rec_5 hrec_5 v4_3 σ_4 h
  refine kk_iload 4 rfl e_X3_flip_23 ?_
  refine kk_aload_n 0 rfl e_X3_flip_25 ?_
  refine kk_getr e_X3_flip_26 fl_X3_18 rfl rfl ?_
  refine kk_geti e_X3_flip_29 fl_X3_85 rfl rfl ?_
  refine kk_icmp_ge e_X3_flip_32 (fun c_13 => ?_) (fun c_13 => ?_)
  · replace h := h.1 c_13
    exact kk_vret e_X3_flip_73 h
  · replace h := h.2 c_13
    refine kk_iload_n 1 rfl e_X3_flip_35 ?_
    refine kk_iload 4 rfl e_X3_flip_36 ?_
    refine kk_ishr e_X3_flip_38 ?_
    refine kk_iconst ic_1 e_X3_flip_39 ?_
    refine kk_iand e_X3_flip_40 ?_
    refine kk_jW1 (P := fun (σ_6 : kk_St) => KK Z sh_C RX3 cX3_flip 5 none (kk_R 2) (kk_Qv Z sh_C Q) 67 [(0, .ref (Z.2.1 2)), (1, .int v1), (2, .int v2), (3, .int v3), (4, .int v4_3)] [] σ_6) h ?_ ?_
    · intro σ_6 h
      refine kk_iinc (lv' := [(4, .int (v4_3 + (1 : Int32))), (0, .ref (Z.2.1 2)), (1, .int v1), (2, .int v2), (3, .int v3)]) e_X3_flip_67 (j := 4) rfl (ii_1 v4_3) (by decide) rfl ?_
      refine kk_goto e_X3_flip_70 ?_
      exact kk_sub [1, 2, 3, 4, 0] rfl (hrec_5 (v4_3 + (1 : Int32)) σ_6 h)
    · intro J_7 hJ_7 h
      refine kk_if_eq e_X3_flip_41 (fun c_12 => ?_) (fun c_12 => ?_)
      · replace h := h.1 c_12
        exact kk_sub [0, 1, 2, 3, 4] rfl (hJ_7 σ_4 h)
      · replace h := h.2 c_12
        refine kk_aload_n 0 rfl e_X3_flip_44 ?_
        refine kk_getr e_X3_flip_45 fl_X3_9 rfl rfl ?_
        refine kk_iload 4 rfl e_X3_flip_48 ?_
        refine kk_aload_n 0 rfl e_X3_flip_50 ?_
        refine kk_getr e_X3_flip_51 fl_X3_9 rfl rfl ?_
        refine kk_iload 4 rfl e_X3_flip_54 ?_
        refine kk_iald e_X3_flip_56 rfl h.1 ?_
        replace h := h.2
        refine kk_iload_n 2 rfl e_X3_flip_57 ?_
        refine kk_jW1 (P := fun (t_8 : Int32) => KK Z sh_C RX3 cX3_flip 5 none (kk_R 2) (kk_Qv Z sh_C Q) 66 [(0, .ref (Z.2.1 2)), (1, .int v1), (2, .int v2), (3, .int v3), (4, .int v4_3)] [.int t_8, .int v4_3, .ref (Z.2.1 16)] σ_4) h ?_ ?_
        · intro t_8 h
          refine kk_iast e_X3_flip_66 rfl h.1 ?_
          replace h := h.2
          refine kk_tops (fun σ_10 eσ_10 => ?_)
          replace h := h σ_10 eσ_10
          exact kk_sub [0, 1, 2, 3, 4] rfl (hJ_7 σ_10 h)
        · intro J_9 hJ_9 h
          refine kk_icmp_ne e_X3_flip_58 (fun c_11 => ?_) (fun c_11 => ?_)
          · replace h := h.1 c_11
            refine kk_iload_n 2 rfl e_X3_flip_65 ?_
            exact kk_sub [0, 1, 2, 3, 4] rfl (hJ_9 v2 h)
          · replace h := h.2 c_11
            refine kk_iload_n 3 rfl e_X3_flip_61 ?_
            refine kk_goto e_X3_flip_62 ?_
            exact kk_sub [0, 1, 2, 3, 4] rfl (hJ_9 v3 h)
theorem e_X2_makeEven_0 : kk_d cX2_makeEven 0 (.iconst 0) 1 1 := ⟨by decide +kernel, rfl⟩
theorem e_X2_makeEven_1 : kk_d cX2_makeEven 1 (.istore_n 1) 1 2 := ⟨by decide +kernel, rfl⟩
theorem e_X2_makeEven_2 : kk_d cX2_makeEven 2 (.iload_n 1) 1 3 := ⟨by decide +kernel, rfl⟩
theorem e_X2_makeEven_3 : kk_d cX2_makeEven 3 (.sipush 1000) 3 6 := ⟨by decide +kernel, rfl⟩
theorem e_X2_makeEven_6 : kk_dj cX2_makeEven 6 (.if_icmp .ge 105) 3 (105) 9 111 := ⟨by decide +kernel, rfl, by decide⟩
theorem e_X2_makeEven_111 : kk_d cX2_makeEven 111 (.sipush 1000) 3 114 := ⟨by decide +kernel, rfl⟩
theorem e_X2_makeEven_114 : kk_d cX2_makeEven 114 .ireturn 1 115 := ⟨by decide +kernel, rfl⟩
theorem e_X2_makeEven_9 : kk_d cX2_makeEven 9 (.iconst 0) 1 10 := ⟨by decide +kernel, rfl⟩
theorem e_X2_makeEven_10 : kk_d cX2_makeEven 10 (.istore_n 2) 1 11 := ⟨by decide +kernel, rfl⟩
theorem e_X2_makeEven_11 : kk_d cX2_makeEven 11 (.iconst 0) 1 12 := ⟨by decide +kernel, rfl⟩
theorem e_X2_makeEven_12 : kk_d cX2_makeEven 12 (.istore_n 3) 1 13 := ⟨by decide +kernel, rfl⟩
theorem e_X2_makeEven_13 : kk_d cX2_makeEven 13 (.iconst 1) 1 14 := ⟨by decide +kernel, rfl⟩
theorem e_X2_makeEven_14 : kk_d cX2_makeEven 14 (.istore 4) 2 16 := ⟨by decide +kernel, rfl⟩
theorem e_X2_makeEven_16 : kk_d cX2_makeEven 16 (.iload 4) 2 18 := ⟨by decide +kernel, rfl⟩
theorem e_X2_makeEven_18 : kk_d cX2_makeEven 18 (.aload_n 0) 1 19 := ⟨by decide +kernel, rfl⟩
theorem e_X2_makeEven_19 : kk_d cX2_makeEven 19 (.invokevirtual 41) 3 22 := ⟨by decide +kernel, rfl⟩
theorem e_X2_makeEven_22 : kk_dj cX2_makeEven 22 (.if_icmp .gt 51) 3 (51) 25 73 := ⟨by decide +kernel, rfl, by decide⟩
theorem e_X2_makeEven_73 : kk_d cX2_makeEven 73 (.aload_n 0) 1 74 := ⟨by decide +kernel, rfl⟩
theorem e_X2_makeEven_74 : kk_d cX2_makeEven 74 (.iload_n 2) 1 75 := ⟨by decide +kernel, rfl⟩
theorem e_X2_makeEven_75 : kk_d cX2_makeEven 75 (.invokevirtual 45) 3 78 := ⟨by decide +kernel, rfl⟩
theorem e_X2_makeEven_78 : kk_d cX2_makeEven 78 (.aload_n 0) 1 79 := ⟨by decide +kernel, rfl⟩
theorem e_X2_makeEven_79 : kk_d cX2_makeEven 79 (.iload_n 3) 1 80 := ⟨by decide +kernel, rfl⟩
theorem e_X2_makeEven_80 : kk_d cX2_makeEven 80 (.invokevirtual 45) 3 83 := ⟨by decide +kernel, rfl⟩
theorem e_X2_makeEven_83 : kk_d cX2_makeEven 83 (.iconst 2) 1 84 := ⟨by decide +kernel, rfl⟩
theorem e_X2_makeEven_84 : kk_d cX2_makeEven 84 .iadd 1 85 := ⟨by decide +kernel, rfl⟩
theorem e_X2_makeEven_85 : kk_dj cX2_makeEven 85 (.if_icmp .ge 5) 3 (5) 88 90 := ⟨by decide +kernel, rfl, by decide⟩
theorem e_X2_makeEven_90 : kk_d cX2_makeEven 90 (.aload_n 0) 1 91 := ⟨by decide +kernel, rfl⟩
theorem e_X2_makeEven_91 : kk_d cX2_makeEven 91 (.getfield 15) 3 94 := ⟨by decide +kernel, rfl⟩
theorem e_X2_makeEven_94 : kk_d cX2_makeEven 94 (.aload_n 0) 1 95 := ⟨by decide +kernel, rfl⟩
theorem e_X2_makeEven_95 : kk_d cX2_makeEven 95 (.iload_n 2) 1 96 := ⟨by decide +kernel, rfl⟩
theorem e_X2_makeEven_96 : kk_d cX2_makeEven 96 (.iload_n 3) 1 97 := ⟨by decide +kernel, rfl⟩
theorem e_X2_makeEven_97 : kk_d cX2_makeEven 97 (.invokevirtual 48) 3 100 := ⟨by decide +kernel, rfl⟩
theorem e_X2_makeEven_100 : kk_d cX2_makeEven 100 (.iload_n 2) 1 101 := ⟨by decide +kernel, rfl⟩
theorem e_X2_makeEven_101 : kk_d cX2_makeEven 101 (.iload_n 3) 1 102 := ⟨by decide +kernel, rfl⟩
theorem e_X2_makeEven_102 : kk_d cX2_makeEven 102 (.invokevirtual 51) 3 105 := ⟨by decide +kernel, rfl⟩
theorem e_X2_makeEven_105 : kk_d cX2_makeEven 105 (.iinc 1 1) 3 108 := ⟨by decide +kernel, rfl⟩
theorem e_X2_makeEven_108 : kk_dj cX2_makeEven 108 (.goto (-106)) 3 (-106) 111 2 := ⟨by decide +kernel, rfl, by decide⟩
theorem e_X2_makeEven_88 : kk_d cX2_makeEven 88 (.iload_n 1) 1 89 := ⟨by decide +kernel, rfl⟩
theorem e_X2_makeEven_89 : kk_d cX2_makeEven 89 .ireturn 1 90 := ⟨by decide +kernel, rfl⟩
theorem e_X2_makeEven_25 : kk_d cX2_makeEven 25 (.aload_n 0) 1 26 := ⟨by decide +kernel, rfl⟩
theorem e_X2_makeEven_26 : kk_d cX2_makeEven 26 (.iload 4) 2 28 := ⟨by decide +kernel, rfl⟩
theorem e_X2_makeEven_28 : kk_d cX2_makeEven 28 (.invokevirtual 45) 3 31 := ⟨by decide +kernel, rfl⟩
theorem e_X2_makeEven_31 : kk_d cX2_makeEven 31 (.aload_n 0) 1 32 := ⟨by decide +kernel, rfl⟩
theorem e_X2_makeEven_32 : kk_d cX2_makeEven 32 (.iload_n 2) 1 33 := ⟨by decide +kernel, rfl⟩
theorem e_X2_makeEven_33 : kk_d cX2_makeEven 33 (.invokevirtual 45) 3 36 := ⟨by decide +kernel, rfl⟩
theorem e_X2_makeEven_36 : kk_dj cX2_makeEven 36 (.if_icmp .le 8) 3 (8) 39 44 := ⟨by decide +kernel, rfl, by decide⟩
theorem e_X2_makeEven_45 : kk_d cX2_makeEven 45 (.istore_n 2) 1 46 := ⟨by decide +kernel, rfl⟩
theorem e_X2_makeEven_46 : kk_d cX2_makeEven 46 (.aload_n 0) 1 47 := ⟨by decide +kernel, rfl⟩
theorem e_X2_makeEven_47 : kk_d cX2_makeEven 47 (.iload 4) 2 49 := ⟨by decide +kernel, rfl⟩
theorem e_X2_makeEven_49 : kk_d cX2_makeEven 49 (.invokevirtual 45) 3 52 := ⟨by decide +kernel, rfl⟩
theorem e_X2_makeEven_52 : kk_d cX2_makeEven 52 (.aload_n 0) 1 53 := ⟨by decide +kernel, rfl⟩
theorem e_X2_makeEven_53 : kk_d cX2_makeEven 53 (.iload_n 3) 1 54 := ⟨by decide +kernel, rfl⟩
theorem e_X2_makeEven_54 : kk_d cX2_makeEven 54 (.invokevirtual 45) 3 57 := ⟨by decide +kernel, rfl⟩
theorem e_X2_makeEven_57 : kk_dj cX2_makeEven 57 (.if_icmp .ge 8) 3 (8) 60 65 := ⟨by decide +kernel, rfl, by decide⟩
theorem e_X2_makeEven_66 : kk_d cX2_makeEven 66 (.istore_n 3) 1 67 := ⟨by decide +kernel, rfl⟩
theorem e_X2_makeEven_67 : kk_d cX2_makeEven 67 (.iinc 4 1) 3 70 := ⟨by decide +kernel, rfl⟩
theorem e_X2_makeEven_70 : kk_dj cX2_makeEven 70 (.goto (-54)) 3 (-54) 73 16 := ⟨by decide +kernel, rfl, by decide⟩
theorem e_X2_makeEven_65 : kk_d cX2_makeEven 65 (.iload_n 3) 1 66 := ⟨by decide +kernel, rfl⟩
theorem e_X2_makeEven_60 : kk_d cX2_makeEven 60 (.iload 4) 2 62 := ⟨by decide +kernel, rfl⟩
theorem e_X2_makeEven_62 : kk_dj cX2_makeEven 62 (.goto 4) 3 (4) 65 66 := ⟨by decide +kernel, rfl, by decide⟩
theorem e_X2_makeEven_44 : kk_d cX2_makeEven 44 (.iload_n 2) 1 45 := ⟨by decide +kernel, rfl⟩
theorem e_X2_makeEven_39 : kk_d cX2_makeEven 39 (.iload 4) 2 41 := ⟨by decide +kernel, rfl⟩
theorem e_X2_makeEven_41 : kk_dj cX2_makeEven 41 (.goto 4) 3 (4) 44 45 := ⟨by decide +kernel, rfl, by decide⟩
set_option maxRecDepth 4000 in
theorem s_X2_makeEven (Z : kk_Z) (σ : kk_St) (Q : Int32 → kk_St → Prop) (h : f_X2_makeEven σ Q) : kk_M Z sh_C yX2_makeEven cX2_makeEven 5 (some .int) (kk_R 5) [.ref (Z.2.1 5)] σ (kk_Qi Z sh_C Q) := by
  unfold f_X2_makeEven at h
  refine kk_met (own := RX2) (by decide) rfl (Nat.le_of_ble_eq_true rfl) rfl ?_
  refine kk_iconst ic_0 e_X2_makeEven_0 ?_
  refine kk_istore_n (lv' := [(1, .int (0 : Int32)), (0, .ref (Z.2.1 5))]) e_X2_makeEven_1 rfl (by decide) rfl ?_
  refine kk_sub [1, 0] rfl ?_
  refine kk_lpW2 (P := fun (v1_1 : Int32) (σ_2 : kk_St) => KK Z sh_C RX2 cX2_makeEven 5 (some .int) (kk_R 5) (kk_Qi Z sh_C Q) 2 [(0, .ref (Z.2.1 5)), (1, .int v1_1)] [] σ_2) ?_ h
  intro rec_3 hrec_3 v1_1 σ_2 h
  refine kk_iload_n 1 rfl e_X2_makeEven_2 ?_
  refine kk_sipush sp_1000 e_X2_makeEven_3 ?_
  refine kk_icmp_ge e_X2_makeEven_6 (fun c_25 => ?_) (fun c_25 => ?_)
  · replace h := h.1 c_25
    refine kk_sipush sp_1000 e_X2_makeEven_111 ?_
    exact kk_iret e_X2_makeEven_114 h
  · replace h := h.2 c_25
    refine kk_iconst ic_0 e_X2_makeEven_9 ?_
    refine kk_istore_n (lv' := [(2, .int (0 : Int32)), (0, .ref (Z.2.1 5)), (1, .int v1_1)]) e_X2_makeEven_10 rfl (by decide) rfl ?_
    refine kk_iconst ic_0 e_X2_makeEven_11 ?_
    refine kk_istore_n (lv' := [(3, .int (0 : Int32)), (2, .int (0 : Int32)), (0, .ref (Z.2.1 5)), (1, .int v1_1)]) e_X2_makeEven_12 rfl (by decide) rfl ?_
    refine kk_iconst ic_1 e_X2_makeEven_13 ?_
    refine kk_istore (lv' := [(4, .int (1 : Int32)), (3, .int (0 : Int32)), (2, .int (0 : Int32)), (0, .ref (Z.2.1 5)), (1, .int v1_1)]) e_X2_makeEven_14 (by decide) rfl ?_
    refine kk_sub [3, 4, 2, 1, 0] rfl ?_
    refine kk_lpW3 (P := fun (v2_4 : Int32) (v3_5 : Int32) (v4_6 : Int32) => KK Z sh_C RX2 cX2_makeEven 5 (some .int) (kk_R 5) (kk_Qi Z sh_C Q) 16 [(0, .ref (Z.2.1 5)), (1, .int v1_1), (2, .int v2_4), (3, .int v3_5), (4, .int v4_6)] [] σ_2) ?_ h
    intro rec_7 hrec_7 v2_4 v3_5 v4_6 h
    refine kk_iload 4 rfl e_X2_makeEven_16 ?_
    refine kk_aload_n 0 rfl e_X2_makeEven_18 ?_
    refine kk_callVip (As := []) (rest := [.int v4_6]) e_X2_makeEven_19 ml_X2_41 ⟨_, _, _, _, rfl, rfl⟩ rfl (kk_fitR (by decide) (by decide)) (Nat.le_of_ble_eq_true rfl) rfl (s_X2_greatestUsed Z σ_2 _ h) (fun r_8 h => ?_)
    refine kk_icmp_gt e_X2_makeEven_22 (fun c_24 => ?_) (fun c_24 => ?_)
    · replace h := h.1 c_24
      refine kk_aload_n 0 rfl e_X2_makeEven_73 ?_
      refine kk_iload_n 2 rfl e_X2_makeEven_74 ?_
      refine kk_callVip (As := [.int v2_4]) (rest := []) e_X2_makeEven_75 ml_X2_45 ⟨_, _, _, _, rfl, rfl⟩ rfl (kk_fitR (by decide) (by decide)) (Nat.le_of_ble_eq_true rfl) rfl (s_X2_howMany Z v2_4 σ_2 _ h) (fun r_9 h => ?_)
      refine kk_aload_n 0 rfl e_X2_makeEven_78 ?_
      refine kk_iload_n 3 rfl e_X2_makeEven_79 ?_
      refine kk_callVip (As := [.int v3_5]) (rest := [.int r_9]) e_X2_makeEven_80 ml_X2_45 ⟨_, _, _, _, rfl, rfl⟩ rfl (kk_fitR (by decide) (by decide)) (Nat.le_of_ble_eq_true rfl) rfl (s_X2_howMany Z v3_5 σ_2 _ h) (fun r_10 h => ?_)
      refine kk_iconst ic_2 e_X2_makeEven_83 ?_
      refine kk_iadd e_X2_makeEven_84 ?_
      refine kk_icmp_ge e_X2_makeEven_85 (fun c_13 => ?_) (fun c_13 => ?_)
      · replace h := h.1 c_13
        refine kk_aload_n 0 rfl e_X2_makeEven_90 ?_
        refine kk_getr e_X2_makeEven_91 fl_X2_15 rfl rfl ?_
        refine kk_aload_n 0 rfl e_X2_makeEven_94 ?_
        refine kk_iload_n 2 rfl e_X2_makeEven_95 ?_
        refine kk_iload_n 3 rfl e_X2_makeEven_96 ?_
        refine kk_callVip (As := [.int v2_4, .int v3_5]) (rest := [.ref (Z.2.1 2)]) e_X2_makeEven_97 ml_X2_48 ⟨_, _, _, _, rfl, rfl⟩ rfl (kk_fitR (by decide) (by decide)) (Nat.le_of_ble_eq_true rfl) rfl (s_X2_leaningChain Z v2_4 v3_5 σ_2 _ h) (fun r_11 h => ?_)
        refine kk_iload_n 2 rfl e_X2_makeEven_100 ?_
        refine kk_iload_n 3 rfl e_X2_makeEven_101 ?_
        refine kk_callVv (As := [.int r_11, .int v2_4, .int v3_5]) (rest := []) e_X2_makeEven_102 ml_X2_51 ⟨_, _, _, _, rfl, rfl⟩ rfl (kk_fitR (by decide) (by decide)) (Nat.le_of_ble_eq_true rfl) rfl (s_X3_flip Z r_11 v2_4 v3_5 σ_2 _ h) (fun σ_12 h => ?_)
        refine kk_iinc (lv' := [(1, .int (v1_1 + (1 : Int32))), (0, .ref (Z.2.1 5)), (2, .int v2_4), (3, .int v3_5), (4, .int v4_6)]) e_X2_makeEven_105 (j := 1) rfl (ii_1 v1_1) (by decide) rfl ?_
        refine kk_goto e_X2_makeEven_108 ?_
        exact kk_sub [1, 0] rfl (hrec_3 (v1_1 + (1 : Int32)) σ_12 h)
      · replace h := h.2 c_13
        refine kk_iload_n 1 rfl e_X2_makeEven_88 ?_
        exact kk_iret e_X2_makeEven_89 h
    · replace h := h.2 c_24
      refine kk_aload_n 0 rfl e_X2_makeEven_25 ?_
      refine kk_iload 4 rfl e_X2_makeEven_26 ?_
      refine kk_callVip (As := [.int v4_6]) (rest := []) e_X2_makeEven_28 ml_X2_45 ⟨_, _, _, _, rfl, rfl⟩ rfl (kk_fitR (by decide) (by decide)) (Nat.le_of_ble_eq_true rfl) rfl (s_X2_howMany Z v4_6 σ_2 _ h) (fun r_14 h => ?_)
      refine kk_aload_n 0 rfl e_X2_makeEven_31 ?_
      refine kk_iload_n 2 rfl e_X2_makeEven_32 ?_
      refine kk_callVip (As := [.int v2_4]) (rest := [.int r_14]) e_X2_makeEven_33 ml_X2_45 ⟨_, _, _, _, rfl, rfl⟩ rfl (kk_fitR (by decide) (by decide)) (Nat.le_of_ble_eq_true rfl) rfl (s_X2_howMany Z v2_4 σ_2 _ h) (fun r_15 h => ?_)
      refine kk_jW1 (P := fun (t_16 : Int32) => KK Z sh_C RX2 cX2_makeEven 5 (some .int) (kk_R 5) (kk_Qi Z sh_C Q) 45 [(0, .ref (Z.2.1 5)), (1, .int v1_1), (3, .int v3_5), (4, .int v4_6)] [.int t_16] σ_2) h ?_ ?_
      · intro t_16 h
        refine kk_istore_n (lv' := [(2, .int t_16), (0, .ref (Z.2.1 5)), (1, .int v1_1), (3, .int v3_5), (4, .int v4_6)]) e_X2_makeEven_45 rfl (by decide) rfl ?_
        refine kk_aload_n 1 rfl e_X2_makeEven_46 ?_
        refine kk_iload 4 rfl e_X2_makeEven_47 ?_
        refine kk_callVip (As := [.int v4_6]) (rest := []) e_X2_makeEven_49 ml_X2_45 ⟨_, _, _, _, rfl, rfl⟩ rfl (kk_fitR (by decide) (by decide)) (Nat.le_of_ble_eq_true rfl) rfl (s_X2_howMany Z v4_6 σ_2 _ h) (fun r_18 h => ?_)
        refine kk_aload_n 1 rfl e_X2_makeEven_52 ?_
        refine kk_iload_n 3 rfl e_X2_makeEven_53 ?_
        refine kk_callVip (As := [.int v3_5]) (rest := [.int r_18]) e_X2_makeEven_54 ml_X2_45 ⟨_, _, _, _, rfl, rfl⟩ rfl (kk_fitR (by decide) (by decide)) (Nat.le_of_ble_eq_true rfl) rfl (s_X2_howMany Z v3_5 σ_2 _ h) (fun r_19 h => ?_)
        refine kk_jW1 (P := fun (t_20 : Int32) => KK Z sh_C RX2 cX2_makeEven 5 (some .int) (kk_R 5) (kk_Qi Z sh_C Q) 66 [(0, .ref (Z.2.1 5)), (1, .int v1_1), (2, .int t_16), (4, .int v4_6)] [.int t_20] σ_2) h ?_ ?_
        · intro t_20 h
          refine kk_istore_n (lv' := [(3, .int t_20), (0, .ref (Z.2.1 5)), (1, .int v1_1), (2, .int t_16), (4, .int v4_6)]) e_X2_makeEven_66 rfl (by decide) rfl ?_
          refine kk_iinc (lv' := [(4, .int (v4_6 + (1 : Int32))), (3, .int t_20), (0, .ref (Z.2.1 5)), (1, .int v1_1), (2, .int t_16)]) e_X2_makeEven_67 (j := 4) rfl (ii_1 v4_6) (by decide) rfl ?_
          refine kk_goto e_X2_makeEven_70 ?_
          exact kk_sub [2, 3, 4, 1, 0] rfl (hrec_7 t_16 t_20 (v4_6 + (1 : Int32)) h)
        · intro J_21 hJ_21 h
          refine kk_icmp_ge e_X2_makeEven_57 (fun c_22 => ?_) (fun c_22 => ?_)
          · replace h := h.1 c_22
            refine kk_iload_n 3 rfl e_X2_makeEven_65 ?_
            exact kk_sub [1, 2, 0, 4] rfl (hJ_21 v3_5 h)
          · replace h := h.2 c_22
            refine kk_iload 4 rfl e_X2_makeEven_60 ?_
            refine kk_goto e_X2_makeEven_62 ?_
            exact kk_sub [1, 2, 0, 4] rfl (hJ_21 v4_6 h)
      · intro J_17 hJ_17 h
        refine kk_icmp_le e_X2_makeEven_36 (fun c_23 => ?_) (fun c_23 => ?_)
        · replace h := h.1 c_23
          refine kk_iload_n 2 rfl e_X2_makeEven_44 ?_
          exact kk_sub [0, 1, 3, 4] rfl (hJ_17 v2_4 h)
        · replace h := h.2 c_23
          refine kk_iload 4 rfl e_X2_makeEven_39 ?_
          refine kk_goto e_X2_makeEven_41 ?_
          exact kk_sub [0, 1, 3, 4] rfl (hJ_17 v4_6 h)
theorem e_X10_even_0 : kk_d cX10_even 0 (.aload_n 0) 1 1 := ⟨by decide +kernel, rfl⟩
theorem e_X10_even_1 : kk_d cX10_even 1 (.getfield 46) 3 4 := ⟨by decide +kernel, rfl⟩
theorem e_X10_even_4 : kk_d cX10_even 4 (.invokevirtual 173) 3 7 := ⟨by decide +kernel, rfl⟩
theorem e_X10_even_7 : kk_d cX10_even 7 .ireturn 1 8 := ⟨by decide +kernel, rfl⟩
set_option maxRecDepth 4000 in
theorem s_X10_even (Z : kk_Z) (σ : kk_St) (Q : Int32 → kk_St → Prop) (h : f_X10_even σ Q) : kk_M Z sh_C yX10_even cX10_even 1 (some .int) (kk_R 6) [.ref (Z.2.1 0)] σ (kk_Qi Z sh_C Q) := by
  unfold f_X10_even at h
  refine kk_met (own := RX10) (by decide) rfl (Nat.le_of_ble_eq_true rfl) rfl ?_
  refine kk_aload_n 0 rfl e_X10_even_0 ?_
  refine kk_getr e_X10_even_1 fl_X10_46 rfl rfl ?_
  refine kk_callVi (As := []) (rest := []) e_X10_even_4 ml_X10_173 ⟨_, _, _, _, rfl, rfl⟩ rfl (kk_fitR (by decide) (by decide)) (Nat.le_of_ble_eq_true rfl) rfl (s_X2_makeEven Z σ _ h) (fun r_1 σ_2 h => ?_)
  exact kk_iret e_X10_even_7 h
theorem e_X6_farEnd_0 : kk_d cX6_farEnd 0 (.aload_n 0) 1 1 := ⟨by decide +kernel, rfl⟩
theorem e_X6_farEnd_1 : kk_d cX6_farEnd 1 (.getfield 9) 3 4 := ⟨by decide +kernel, rfl⟩
theorem e_X6_farEnd_4 : kk_d cX6_farEnd 4 (.iload_n 1) 1 5 := ⟨by decide +kernel, rfl⟩
theorem e_X6_farEnd_5 : kk_d cX6_farEnd 5 .iaload 1 6 := ⟨by decide +kernel, rfl⟩
theorem e_X6_farEnd_6 : kk_d cX6_farEnd 6 (.iload_n 2) 1 7 := ⟨by decide +kernel, rfl⟩
theorem e_X6_farEnd_7 : kk_dj cX6_farEnd 7 (.if_icmp .ne 12) 3 (12) 10 19 := ⟨by decide +kernel, rfl, by decide⟩
theorem e_X6_farEnd_25 : kk_d cX6_farEnd 25 .ireturn 1 26 := ⟨by decide +kernel, rfl⟩
theorem e_X6_farEnd_19 : kk_d cX6_farEnd 19 (.aload_n 0) 1 20 := ⟨by decide +kernel, rfl⟩
theorem e_X6_farEnd_20 : kk_d cX6_farEnd 20 (.getfield 9) 3 23 := ⟨by decide +kernel, rfl⟩
theorem e_X6_farEnd_23 : kk_d cX6_farEnd 23 (.iload_n 1) 1 24 := ⟨by decide +kernel, rfl⟩
theorem e_X6_farEnd_24 : kk_d cX6_farEnd 24 .iaload 1 25 := ⟨by decide +kernel, rfl⟩
theorem e_X6_farEnd_10 : kk_d cX6_farEnd 10 (.aload_n 0) 1 11 := ⟨by decide +kernel, rfl⟩
theorem e_X6_farEnd_11 : kk_d cX6_farEnd 11 (.getfield 15) 3 14 := ⟨by decide +kernel, rfl⟩
theorem e_X6_farEnd_14 : kk_d cX6_farEnd 14 (.iload_n 1) 1 15 := ⟨by decide +kernel, rfl⟩
theorem e_X6_farEnd_15 : kk_d cX6_farEnd 15 .iaload 1 16 := ⟨by decide +kernel, rfl⟩
theorem e_X6_farEnd_16 : kk_dj cX6_farEnd 16 (.goto 9) 3 (9) 19 25 := ⟨by decide +kernel, rfl, by decide⟩
set_option maxRecDepth 4000 in
theorem s_X6_farEnd (Z : kk_Z) (v1 : Int32) (v2 : Int32) (σ : kk_St) (Q : Int32 → Prop) (h : f_X6_farEnd v1 v2 σ Q) : kk_M Z sh_C yX6_farEnd cX6_farEnd 3 (some .int) (kk_R 2) [.ref (Z.2.1 1), .int v1, .int v2] σ (kk_Qi Z sh_C (fun r σ' => σ' = σ ∧ Q r)) := by
  unfold f_X6_farEnd at h
  refine kk_met (own := RX6) (by decide) rfl (Nat.le_of_ble_eq_true rfl) rfl ?_
  refine kk_aload_n 0 rfl e_X6_farEnd_0 ?_
  refine kk_getr e_X6_farEnd_1 fl_X6_9 rfl rfl ?_
  refine kk_iload_n 1 rfl e_X6_farEnd_4 ?_
  refine kk_iald e_X6_farEnd_5 rfl h.1 ?_
  replace h := h.2
  refine kk_iload_n 2 rfl e_X6_farEnd_6 ?_
  refine kk_jW1 (P := fun (t_1 : Int32) => KK Z sh_C RX6 cX6_farEnd 3 (some .int) (kk_R 2) (kk_Qi Z sh_C (fun r σ' => σ' = σ ∧ Q r)) 25 [] [.int t_1] σ) h ?_ ?_
  · intro t_1 h
    exact kk_iret e_X6_farEnd_25 ⟨rfl, h⟩
  · intro J_2 hJ_2 h
    refine kk_icmp_ne e_X6_farEnd_7 (fun c_3 => ?_) (fun c_3 => ?_)
    · replace h := h.1 c_3
      refine kk_aload_n 0 rfl e_X6_farEnd_19 ?_
      refine kk_getr e_X6_farEnd_20 fl_X6_9 rfl rfl ?_
      refine kk_iload_n 1 rfl e_X6_farEnd_23 ?_
      refine kk_iald e_X6_farEnd_24 rfl h.1 ?_
      replace h := h.2
      exact kk_sub [] rfl (hJ_2 (kk_rd σ 11 v1) h)
    · replace h := h.2 c_3
      refine kk_aload_n 0 rfl e_X6_farEnd_10 ?_
      refine kk_getr e_X6_farEnd_11 fl_X6_15 rfl rfl ?_
      refine kk_iload_n 1 rfl e_X6_farEnd_14 ?_
      refine kk_iald e_X6_farEnd_15 rfl h.1 ?_
      replace h := h.2
      refine kk_goto e_X6_farEnd_16 ?_
      exact kk_sub [] rfl (hJ_2 (kk_rd σ 12 v1) h)
theorem e_X4_follower_0 : kk_d cX4_follower 0 (.aload_n 0) 1 1 := ⟨by decide +kernel, rfl⟩
theorem e_X4_follower_1 : kk_d cX4_follower 1 (.getfield 23) 3 4 := ⟨by decide +kernel, rfl⟩
theorem e_X4_follower_4 : kk_d cX4_follower 4 (.iload_n 2) 1 5 := ⟨by decide +kernel, rfl⟩
theorem e_X4_follower_5 : kk_d cX4_follower 5 (.invokevirtual 37) 3 8 := ⟨by decide +kernel, rfl⟩
theorem e_X4_follower_8 : kk_d cX4_follower 8 (.istore 4) 2 10 := ⟨by decide +kernel, rfl⟩
theorem e_X4_follower_10 : kk_d cX4_follower 10 (.iconst 0) 1 11 := ⟨by decide +kernel, rfl⟩
theorem e_X4_follower_11 : kk_d cX4_follower 11 (.istore 5) 2 13 := ⟨by decide +kernel, rfl⟩
theorem e_X4_follower_13 : kk_d cX4_follower 13 (.iload 5) 2 15 := ⟨by decide +kernel, rfl⟩
theorem e_X4_follower_15 : kk_d cX4_follower 15 (.bipush 9) 2 17 := ⟨by decide +kernel, rfl⟩
theorem e_X4_follower_17 : kk_dj cX4_follower 17 (.if_icmp .ge 61) 3 (61) 20 78 := ⟨by decide +kernel, rfl, by decide⟩
theorem e_X4_follower_78 : kk_d cX4_follower 78 (.iconst (-1)) 1 79 := ⟨by decide +kernel, rfl⟩
theorem e_X4_follower_79 : kk_d cX4_follower 79 .ireturn 1 80 := ⟨by decide +kernel, rfl⟩
theorem e_X4_follower_20 : kk_d cX4_follower 20 (.aload_n 0) 1 21 := ⟨by decide +kernel, rfl⟩
theorem e_X4_follower_21 : kk_d cX4_follower 21 (.getfield 23) 3 24 := ⟨by decide +kernel, rfl⟩
theorem e_X4_follower_24 : kk_d cX4_follower 24 (.iload_n 1) 1 25 := ⟨by decide +kernel, rfl⟩
theorem e_X4_follower_25 : kk_d cX4_follower 25 (.iload 5) 2 27 := ⟨by decide +kernel, rfl⟩
theorem e_X4_follower_27 : kk_d cX4_follower 27 (.invokevirtual 43) 3 30 := ⟨by decide +kernel, rfl⟩
theorem e_X4_follower_30 : kk_d cX4_follower 30 (.istore 6) 2 32 := ⟨by decide +kernel, rfl⟩
theorem e_X4_follower_32 : kk_d cX4_follower 32 (.iload 4) 2 34 := ⟨by decide +kernel, rfl⟩
theorem e_X4_follower_34 : kk_d cX4_follower 34 (.iload 5) 2 36 := ⟨by decide +kernel, rfl⟩
theorem e_X4_follower_36 : kk_d cX4_follower 36 .ishr 1 37 := ⟨by decide +kernel, rfl⟩
theorem e_X4_follower_37 : kk_d cX4_follower 37 (.iconst 1) 1 38 := ⟨by decide +kernel, rfl⟩
theorem e_X4_follower_38 : kk_d cX4_follower 38 .iand 1 39 := ⟨by decide +kernel, rfl⟩
theorem e_X4_follower_39 : kk_dj cX4_follower 39 (.ifCond .eq 33) 3 (33) 42 72 := ⟨by decide +kernel, rfl, by decide⟩
theorem e_X4_follower_72 : kk_d cX4_follower 72 (.iinc 5 1) 3 75 := ⟨by decide +kernel, rfl⟩
theorem e_X4_follower_75 : kk_dj cX4_follower 75 (.goto (-62)) 3 (-62) 78 13 := ⟨by decide +kernel, rfl, by decide⟩
theorem e_X4_follower_42 : kk_d cX4_follower 42 (.iload 6) 2 44 := ⟨by decide +kernel, rfl⟩
theorem e_X4_follower_44 : kk_d cX4_follower 44 (.iconst (-1)) 1 45 := ⟨by decide +kernel, rfl⟩
theorem e_X4_follower_45 : kk_dj cX4_follower 45 (.if_icmp .eq 27) 3 (27) 48 72 := ⟨by decide +kernel, rfl, by decide⟩
theorem e_X4_follower_48 : kk_d cX4_follower 48 (.aload_n 0) 1 49 := ⟨by decide +kernel, rfl⟩
theorem e_X4_follower_49 : kk_d cX4_follower 49 (.getfield 19) 3 52 := ⟨by decide +kernel, rfl⟩
theorem e_X4_follower_52 : kk_d cX4_follower 52 (.iload 6) 2 54 := ⟨by decide +kernel, rfl⟩
theorem e_X4_follower_54 : kk_d cX4_follower 54 (.iload_n 1) 1 55 := ⟨by decide +kernel, rfl⟩
theorem e_X4_follower_55 : kk_d cX4_follower 55 (.invokevirtual 27) 3 58 := ⟨by decide +kernel, rfl⟩
theorem e_X4_follower_58 : kk_d cX4_follower 58 (.istore 7) 2 60 := ⟨by decide +kernel, rfl⟩
theorem e_X4_follower_60 : kk_d cX4_follower 60 (.iload_n 3) 1 61 := ⟨by decide +kernel, rfl⟩
theorem e_X4_follower_61 : kk_d cX4_follower 61 (.iload 7) 2 63 := ⟨by decide +kernel, rfl⟩
theorem e_X4_follower_63 : kk_d cX4_follower 63 .ishr 1 64 := ⟨by decide +kernel, rfl⟩
theorem e_X4_follower_64 : kk_d cX4_follower 64 (.iconst 1) 1 65 := ⟨by decide +kernel, rfl⟩
theorem e_X4_follower_65 : kk_d cX4_follower 65 .iand 1 66 := ⟨by decide +kernel, rfl⟩
theorem e_X4_follower_66 : kk_dj cX4_follower 66 (.ifCond .ne 6) 3 (6) 69 72 := ⟨by decide +kernel, rfl, by decide⟩
theorem e_X4_follower_69 : kk_d cX4_follower 69 (.iload 7) 2 71 := ⟨by decide +kernel, rfl⟩
theorem e_X4_follower_71 : kk_d cX4_follower 71 .ireturn 1 72 := ⟨by decide +kernel, rfl⟩
set_option maxRecDepth 4000 in
theorem s_X4_follower (Z : kk_Z) (v1 : Int32) (v2 : Int32) (v3 : Int32) (σ : kk_St) (Q : Int32 → Prop) (h : f_X4_follower v1 v2 v3 σ Q) : kk_M Z sh_C yX4_follower cX4_follower 8 (some .int) (kk_R 4) [.ref (Z.2.1 3), .int v1, .int v2, .int v3] σ (kk_Qi Z sh_C (fun r σ' => σ' = σ ∧ Q r)) := by
  unfold f_X4_follower at h
  refine kk_met (own := RX4) (by decide) rfl (Nat.le_of_ble_eq_true rfl) rfl ?_
  refine kk_aload_n 0 rfl e_X4_follower_0 ?_
  refine kk_getr e_X4_follower_1 fl_X4_23 rfl rfl ?_
  refine kk_iload_n 2 rfl e_X4_follower_4 ?_
  refine kk_callVip (As := [.int v2]) (rest := []) e_X4_follower_5 ml_X4_37 ⟨_, _, _, _, rfl, rfl⟩ rfl (kk_fitR (by decide) (by decide)) (Nat.le_of_ble_eq_true rfl) rfl (s_X3_freeAt Z v2 σ _ h) (fun r_1 h => ?_)
  refine kk_istore (lv' := [(4, .int r_1), (0, .ref (Z.2.1 3)), (1, .int v1), (2, .int v2), (3, .int v3)]) e_X4_follower_8 (by decide) rfl ?_
  refine kk_iconst ic_0 e_X4_follower_10 ?_
  refine kk_istore (lv' := [(5, .int (0 : Int32)), (4, .int r_1), (0, .ref (Z.2.1 3)), (1, .int v1), (2, .int v2), (3, .int v3)]) e_X4_follower_11 (by decide) rfl ?_
  refine kk_sub [2, 3, 5, 1, 0] rfl ?_
  refine kk_lpW1 (P := fun (v5_2 : Int32) => KK Z sh_C RX4 cX4_follower 8 (some .int) (kk_R 4) (kk_Qi Z sh_C (fun r σ' => σ' = σ ∧ Q r)) 13 [(0, .ref (Z.2.1 3)), (1, .int v1), (3, .int v3), (4, .int r_1), (5, .int v5_2)] [] σ) ?_ h
  intro rec_3 hrec_3 v5_2 h
  refine kk_iload 4 rfl e_X4_follower_13 ?_
  refine kk_bipush bp_9 e_X4_follower_15 ?_
  refine kk_icmp_ge e_X4_follower_17 (fun c_10 => ?_) (fun c_10 => ?_)
  · replace h := h.1 c_10
    refine kk_iconst ic_m1 e_X4_follower_78 ?_
    exact kk_iret e_X4_follower_79 ⟨rfl, h⟩
  · replace h := h.2 c_10
    refine kk_aload_n 0 rfl e_X4_follower_20 ?_
    refine kk_getr e_X4_follower_21 fl_X4_23 rfl rfl ?_
    refine kk_iload_n 1 rfl e_X4_follower_24 ?_
    refine kk_iload 4 rfl e_X4_follower_25 ?_
    refine kk_callVip (As := [.int v1, .int v5_2]) (rest := []) e_X4_follower_27 ml_X4_43 ⟨_, _, _, _, rfl, rfl⟩ rfl (kk_fitR (by decide) (by decide)) (Nat.le_of_ble_eq_true rfl) rfl (s_X3_lineWith Z v1 v5_2 σ _ h) (fun r_4 h => ?_)
    refine kk_istore (lv' := [(6, .int r_4), (0, .ref (Z.2.1 3)), (1, .int v1), (3, .int v3), (4, .int r_1), (5, .int v5_2)]) e_X4_follower_30 (by decide) rfl ?_
    refine kk_iload 4 rfl e_X4_follower_32 ?_
    refine kk_iload 5 rfl e_X4_follower_34 ?_
    refine kk_ishr e_X4_follower_36 ?_
    refine kk_iconst ic_1 e_X4_follower_37 ?_
    refine kk_iand e_X4_follower_38 ?_
    refine kk_jW0 (P := KK Z sh_C RX4 cX4_follower 8 (some .int) (kk_R 4) (kk_Qi Z sh_C (fun r σ' => σ' = σ ∧ Q r)) 72 [(0, .ref (Z.2.1 3)), (1, .int v1), (3, .int v3), (4, .int r_1), (5, .int v5_2)] [] σ) h ?_ ?_
    · intro h
      refine kk_iinc (lv' := [(5, .int (v5_2 + (1 : Int32))), (0, .ref (Z.2.1 3)), (1, .int v1), (3, .int v3), (4, .int r_1)]) e_X4_follower_72 (j := 4) rfl (ii_1 v5_2) (by decide) rfl ?_
      refine kk_goto e_X4_follower_75 ?_
      exact kk_sub [1, 2, 3, 4, 0] rfl (hrec_3 (v5_2 + (1 : Int32)) h)
    · intro J_5 hJ_5 h
      refine kk_if_eq e_X4_follower_39 (fun c_9 => ?_) (fun c_9 => ?_)
      · replace h := h.1 c_9
        exact kk_sub [1, 2, 3, 4, 5] rfl (hJ_5 h)
      · replace h := h.2 c_9
        refine kk_iload 0 rfl e_X4_follower_42 ?_
        refine kk_iconst ic_m1 e_X4_follower_44 ?_
        refine kk_icmp_eq e_X4_follower_45 (fun c_8 => ?_) (fun c_8 => ?_)
        · replace h := h.1 c_8
          exact kk_sub [1, 2, 3, 4, 5] rfl (hJ_5 h)
        · replace h := h.2 c_8
          refine kk_aload_n 1 rfl e_X4_follower_48 ?_
          refine kk_getr e_X4_follower_49 fl_X4_19 rfl rfl ?_
          refine kk_iload 0 rfl e_X4_follower_52 ?_
          refine kk_iload_n 2 rfl e_X4_follower_54 ?_
          refine kk_callVip (As := [.int r_4, .int v1]) (rest := []) e_X4_follower_55 ml_X4_27 ⟨_, _, _, _, rfl, rfl⟩ rfl (kk_fitR (by decide) (by decide)) (Nat.le_of_ble_eq_true rfl) rfl (s_X6_farEnd Z r_4 v1 σ _ h) (fun r_6 h => ?_)
          refine kk_istore (lv' := [(7, .int r_6), (6, .int r_4), (0, .ref (Z.2.1 3)), (1, .int v1), (3, .int v3), (4, .int r_1), (5, .int v5_2)]) e_X4_follower_58 (by decide) rfl ?_
          refine kk_iload_n 4 rfl e_X4_follower_60 ?_
          refine kk_iload 0 rfl e_X4_follower_61 ?_
          refine kk_ishr e_X4_follower_63 ?_
          refine kk_iconst ic_1 e_X4_follower_64 ?_
          refine kk_iand e_X4_follower_65 ?_
          refine kk_if_ne e_X4_follower_66 (fun c_7 => ?_) (fun c_7 => ?_)
          · replace h := h.1 c_7
            exact kk_sub [2, 3, 4, 5, 6] rfl (hJ_5 h)
          · replace h := h.2 c_7
            refine kk_iload 0 rfl e_X4_follower_69 ?_
            exact kk_iret e_X4_follower_71 ⟨rfl, h⟩
theorem e_X4_lay_0 : kk_d cX4_lay 0 (.aload_n 0) 1 1 := ⟨by decide +kernel, rfl⟩
theorem e_X4_lay_1 : kk_d cX4_lay 1 (.getfield 9) 3 4 := ⟨by decide +kernel, rfl⟩
theorem e_X4_lay_4 : kk_d cX4_lay 4 (.iconst 0) 1 5 := ⟨by decide +kernel, rfl⟩
theorem e_X4_lay_5 : kk_d cX4_lay 5 (.aload_n 0) 1 6 := ⟨by decide +kernel, rfl⟩
theorem e_X4_lay_6 : kk_d cX4_lay 6 (.getfield 19) 3 9 := ⟨by decide +kernel, rfl⟩
theorem e_X4_lay_9 : kk_d cX4_lay 9 (.iload_n 1) 1 10 := ⟨by decide +kernel, rfl⟩
theorem e_X4_lay_10 : kk_d cX4_lay 10 (.iload_n 2) 1 11 := ⟨by decide +kernel, rfl⟩
theorem e_X4_lay_11 : kk_d cX4_lay 11 (.invokevirtual 27) 3 14 := ⟨by decide +kernel, rfl⟩
theorem e_X4_lay_14 : kk_d cX4_lay 14 .iastore 1 15 := ⟨by decide +kernel, rfl⟩
theorem e_X4_lay_15 : kk_d cX4_lay 15 (.aload_n 0) 1 16 := ⟨by decide +kernel, rfl⟩
theorem e_X4_lay_16 : kk_d cX4_lay 16 (.iconst 1) 1 17 := ⟨by decide +kernel, rfl⟩
theorem e_X4_lay_17 : kk_d cX4_lay 17 (.putfield 15) 3 20 := ⟨by decide +kernel, rfl⟩
theorem e_X4_lay_20 : kk_d cX4_lay 20 (.iconst 1) 1 21 := ⟨by decide +kernel, rfl⟩
theorem e_X4_lay_21 : kk_d cX4_lay 21 (.aload_n 0) 1 22 := ⟨by decide +kernel, rfl⟩
theorem e_X4_lay_22 : kk_d cX4_lay 22 (.getfield 9) 3 25 := ⟨by decide +kernel, rfl⟩
theorem e_X4_lay_25 : kk_d cX4_lay 25 (.iconst 0) 1 26 := ⟨by decide +kernel, rfl⟩
theorem e_X4_lay_26 : kk_d cX4_lay 26 .iaload 1 27 := ⟨by decide +kernel, rfl⟩
theorem e_X4_lay_27 : kk_d cX4_lay 27 .ishl 1 28 := ⟨by decide +kernel, rfl⟩
theorem e_X4_lay_28 : kk_d cX4_lay 28 (.istore_n 3) 1 29 := ⟨by decide +kernel, rfl⟩
theorem e_X4_lay_29 : kk_d cX4_lay 29 (.iconst 1) 1 30 := ⟨by decide +kernel, rfl⟩
theorem e_X4_lay_30 : kk_d cX4_lay 30 (.istore 4) 2 32 := ⟨by decide +kernel, rfl⟩
theorem e_X4_lay_32 : kk_d cX4_lay 32 (.iload 4) 2 34 := ⟨by decide +kernel, rfl⟩
theorem e_X4_lay_34 : kk_d cX4_lay 34 (.bipush 9) 2 36 := ⟨by decide +kernel, rfl⟩
theorem e_X4_lay_36 : kk_dj cX4_lay 36 (.if_icmp .ge 57) 3 (57) 39 93 := ⟨by decide +kernel, rfl, by decide⟩
theorem e_X4_lay_93 : kk_d cX4_lay 93 .return_ 1 94 := ⟨by decide +kernel, rfl⟩
theorem e_X4_lay_39 : kk_d cX4_lay 39 (.aload_n 0) 1 40 := ⟨by decide +kernel, rfl⟩
theorem e_X4_lay_40 : kk_d cX4_lay 40 (.iload_n 2) 1 41 := ⟨by decide +kernel, rfl⟩
theorem e_X4_lay_41 : kk_d cX4_lay 41 (.aload_n 0) 1 42 := ⟨by decide +kernel, rfl⟩
theorem e_X4_lay_42 : kk_d cX4_lay 42 (.getfield 9) 3 45 := ⟨by decide +kernel, rfl⟩
theorem e_X4_lay_45 : kk_d cX4_lay 45 (.iload 4) 2 47 := ⟨by decide +kernel, rfl⟩
theorem e_X4_lay_47 : kk_d cX4_lay 47 (.iconst 1) 1 48 := ⟨by decide +kernel, rfl⟩
theorem e_X4_lay_48 : kk_d cX4_lay 48 .isub 1 49 := ⟨by decide +kernel, rfl⟩
theorem e_X4_lay_49 : kk_d cX4_lay 49 .iaload 1 50 := ⟨by decide +kernel, rfl⟩
theorem e_X4_lay_50 : kk_d cX4_lay 50 (.iload_n 3) 1 51 := ⟨by decide +kernel, rfl⟩
theorem e_X4_lay_51 : kk_d cX4_lay 51 (.invokevirtual 33) 3 54 := ⟨by decide +kernel, rfl⟩
theorem e_X4_lay_54 : kk_d cX4_lay 54 (.istore 5) 2 56 := ⟨by decide +kernel, rfl⟩
theorem e_X4_lay_56 : kk_d cX4_lay 56 (.iload 5) 2 58 := ⟨by decide +kernel, rfl⟩
theorem e_X4_lay_58 : kk_d cX4_lay 58 (.iconst (-1)) 1 59 := ⟨by decide +kernel, rfl⟩
theorem e_X4_lay_59 : kk_dj cX4_lay 59 (.if_icmp .ne 4) 3 (4) 62 63 := ⟨by decide +kernel, rfl, by decide⟩
theorem e_X4_lay_63 : kk_d cX4_lay 63 (.aload_n 0) 1 64 := ⟨by decide +kernel, rfl⟩
theorem e_X4_lay_64 : kk_d cX4_lay 64 (.getfield 9) 3 67 := ⟨by decide +kernel, rfl⟩
theorem e_X4_lay_67 : kk_d cX4_lay 67 (.iload 4) 2 69 := ⟨by decide +kernel, rfl⟩
theorem e_X4_lay_69 : kk_d cX4_lay 69 (.iload 5) 2 71 := ⟨by decide +kernel, rfl⟩
theorem e_X4_lay_71 : kk_d cX4_lay 71 .iastore 1 72 := ⟨by decide +kernel, rfl⟩
theorem e_X4_lay_72 : kk_d cX4_lay 72 (.iload_n 3) 1 73 := ⟨by decide +kernel, rfl⟩
theorem e_X4_lay_73 : kk_d cX4_lay 73 (.iconst 1) 1 74 := ⟨by decide +kernel, rfl⟩
theorem e_X4_lay_74 : kk_d cX4_lay 74 (.iload 5) 2 76 := ⟨by decide +kernel, rfl⟩
theorem e_X4_lay_76 : kk_d cX4_lay 76 .ishl 1 77 := ⟨by decide +kernel, rfl⟩
theorem e_X4_lay_77 : kk_d cX4_lay 77 .ior 1 78 := ⟨by decide +kernel, rfl⟩
theorem e_X4_lay_78 : kk_d cX4_lay 78 (.istore_n 3) 1 79 := ⟨by decide +kernel, rfl⟩
theorem e_X4_lay_79 : kk_d cX4_lay 79 (.aload_n 0) 1 80 := ⟨by decide +kernel, rfl⟩
theorem e_X4_lay_80 : kk_d cX4_lay 80 (.iload 4) 2 82 := ⟨by decide +kernel, rfl⟩
theorem e_X4_lay_82 : kk_d cX4_lay 82 (.iconst 1) 1 83 := ⟨by decide +kernel, rfl⟩
theorem e_X4_lay_83 : kk_d cX4_lay 83 .iadd 1 84 := ⟨by decide +kernel, rfl⟩
theorem e_X4_lay_84 : kk_d cX4_lay 84 (.putfield 15) 3 87 := ⟨by decide +kernel, rfl⟩
theorem e_X4_lay_87 : kk_d cX4_lay 87 (.iinc 4 1) 3 90 := ⟨by decide +kernel, rfl⟩
theorem e_X4_lay_90 : kk_dj cX4_lay 90 (.goto (-58)) 3 (-58) 93 32 := ⟨by decide +kernel, rfl, by decide⟩
theorem e_X4_lay_62 : kk_d cX4_lay 62 .return_ 1 63 := ⟨by decide +kernel, rfl⟩
set_option maxRecDepth 4000 in
theorem s_X4_lay (Z : kk_Z) (v1 : Int32) (v2 : Int32) (σ : kk_St) (Q : kk_St → Prop) (h : f_X4_lay v1 v2 σ Q) : kk_M Z sh_C yX4_lay cX4_lay 6 none (kk_R 5) [.ref (Z.2.1 3), .int v1, .int v2] σ (kk_Qv Z sh_C Q) := by
  unfold f_X4_lay at h
  refine kk_met (own := RX4) (by decide) rfl (Nat.le_of_ble_eq_true rfl) rfl ?_
  refine kk_aload_n 0 rfl e_X4_lay_0 ?_
  refine kk_getr e_X4_lay_1 fl_X4_9 rfl rfl ?_
  refine kk_iconst ic_0 e_X4_lay_4 ?_
  refine kk_aload_n 0 rfl e_X4_lay_5 ?_
  refine kk_getr e_X4_lay_6 fl_X4_19 rfl rfl ?_
  refine kk_iload_n 1 rfl e_X4_lay_9 ?_
  refine kk_iload_n 2 rfl e_X4_lay_10 ?_
  refine kk_callVip (As := [.int v1, .int v2]) (rest := [.int (0 : Int32), .ref (Z.2.1 18)]) e_X4_lay_11 ml_X4_27 ⟨_, _, _, _, rfl, rfl⟩ rfl (kk_fitR (by decide) (by decide)) (Nat.le_of_ble_eq_true rfl) rfl (s_X6_farEnd Z v1 v2 σ _ h) (fun r_1 h => ?_)
  refine kk_iast e_X4_lay_14 rfl h.1 ?_
  replace h := h.2
  refine kk_tops (fun σ_2 eσ_2 => ?_)
  replace h := h σ_2 eσ_2
  refine kk_aload_n 0 rfl e_X4_lay_15 ?_
  refine kk_iconst ic_1 e_X4_lay_16 ?_
  refine kk_puti e_X4_lay_17 fl_X4_15 fn_X4_3 rfl rfl ?_
  refine kk_tops (fun σ_3 eσ_3 => ?_)
  replace h := h σ_3 eσ_3
  refine kk_iconst ic_1 e_X4_lay_20 ?_
  refine kk_aload_n 0 rfl e_X4_lay_21 ?_
  refine kk_getr e_X4_lay_22 fl_X4_9 rfl rfl ?_
  refine kk_iconst ic_0 e_X4_lay_25 ?_
  refine kk_iald e_X4_lay_26 rfl h.1 ?_
  replace h := h.2
  refine kk_ishl e_X4_lay_27 ?_
  refine kk_topi (fun v3_4 ev3_4 => ?_)
  replace h := h v3_4 ev3_4
  refine kk_istore_n (lv' := [(3, .int v3_4), (0, .ref (Z.2.1 3)), (1, .int v1), (2, .int v2)]) e_X4_lay_28 rfl (by decide) rfl ?_
  refine kk_iconst ic_1 e_X4_lay_29 ?_
  refine kk_istore (lv' := [(4, .int (1 : Int32)), (3, .int v3_4), (0, .ref (Z.2.1 3)), (1, .int v1), (2, .int v2)]) e_X4_lay_30 (by decide) rfl ?_
  refine kk_sub [2, 4, 1, 0] rfl ?_
  refine kk_lpW3 (P := fun (v3_5 : Int32) (v4_6 : Int32) (σ_7 : kk_St) => KK Z sh_C RX4 cX4_lay 6 none (kk_R 5) (kk_Qv Z sh_C Q) 32 [(0, .ref (Z.2.1 3)), (2, .int v2), (3, .int v3_5), (4, .int v4_6)] [] σ_7) ?_ h
  intro rec_8 hrec_8 v3_5 v4_6 σ_7 h
  refine kk_iload 3 rfl e_X4_lay_32 ?_
  refine kk_bipush bp_9 e_X4_lay_34 ?_
  refine kk_icmp_ge e_X4_lay_36 (fun c_14 => ?_) (fun c_14 => ?_)
  · replace h := h.1 c_14
    exact kk_vret e_X4_lay_93 h
  · replace h := h.2 c_14
    refine kk_aload_n 0 rfl e_X4_lay_39 ?_
    refine kk_iload_n 1 rfl e_X4_lay_40 ?_
    refine kk_aload_n 0 rfl e_X4_lay_41 ?_
    refine kk_getr e_X4_lay_42 fl_X4_9 rfl rfl ?_
    refine kk_iload 3 rfl e_X4_lay_45 ?_
    refine kk_iconst ic_1 e_X4_lay_47 ?_
    refine kk_isub e_X4_lay_48 ?_
    refine kk_iald e_X4_lay_49 rfl h.1 ?_
    replace h := h.2
    refine kk_iload_n 2 rfl e_X4_lay_50 ?_
    refine kk_callVip (As := [.int v2, .int (kk_rd σ_7 18 (v4_6 - (1 : Int32))), .int v3_5]) (rest := []) e_X4_lay_51 ml_X4_33 ⟨_, _, _, _, rfl, rfl⟩ rfl (kk_fitR (by decide) (by decide)) (Nat.le_of_ble_eq_true rfl) rfl (s_X4_follower Z v2 (kk_rd σ_7 18 (v4_6 - (1 : Int32))) v3_5 σ_7 _ h) (fun r_9 h => ?_)
    refine kk_istore (lv' := [(5, .int r_9), (0, .ref (Z.2.1 3)), (2, .int v2), (3, .int v3_5), (4, .int v4_6)]) e_X4_lay_54 (by decide) rfl ?_
    refine kk_iload 0 rfl e_X4_lay_56 ?_
    refine kk_iconst ic_m1 e_X4_lay_58 ?_
    refine kk_icmp_ne e_X4_lay_59 (fun c_13 => ?_) (fun c_13 => ?_)
    · replace h := h.1 c_13
      refine kk_aload_n 1 rfl e_X4_lay_63 ?_
      refine kk_getr e_X4_lay_64 fl_X4_9 rfl rfl ?_
      refine kk_iload 4 rfl e_X4_lay_67 ?_
      refine kk_iload 0 rfl e_X4_lay_69 ?_
      refine kk_iast e_X4_lay_71 rfl h.1 ?_
      replace h := h.2
      refine kk_tops (fun σ_10 eσ_10 => ?_)
      replace h := h σ_10 eσ_10
      refine kk_iload_n 3 rfl e_X4_lay_72 ?_
      refine kk_iconst ic_1 e_X4_lay_73 ?_
      refine kk_iload 0 rfl e_X4_lay_74 ?_
      refine kk_ishl e_X4_lay_76 ?_
      refine kk_ior e_X4_lay_77 ?_
      refine kk_topi (fun v3_11 ev3_11 => ?_)
      replace h := h v3_11 ev3_11
      refine kk_istore_n (lv' := [(3, .int v3_11), (5, .int r_9), (0, .ref (Z.2.1 3)), (2, .int v2), (4, .int v4_6)]) e_X4_lay_78 rfl (by decide) rfl ?_
      refine kk_aload_n 2 rfl e_X4_lay_79 ?_
      refine kk_iload 4 rfl e_X4_lay_80 ?_
      refine kk_iconst ic_1 e_X4_lay_82 ?_
      refine kk_iadd e_X4_lay_83 ?_
      refine kk_puti e_X4_lay_84 fl_X4_15 fn_X4_3 rfl rfl ?_
      refine kk_tops (fun σ_12 eσ_12 => ?_)
      replace h := h σ_12 eσ_12
      refine kk_iinc (lv' := [(4, .int (v4_6 + (1 : Int32))), (3, .int v3_11), (5, .int r_9), (0, .ref (Z.2.1 3)), (2, .int v2)]) e_X4_lay_87 (j := 4) rfl (ii_1 v4_6) (by decide) rfl ?_
      refine kk_goto e_X4_lay_90 ?_
      exact kk_sub [3, 4, 1, 0] rfl (hrec_8 v3_11 (v4_6 + (1 : Int32)) σ_12 h)
    · replace h := h.2 c_13
      exact kk_vret e_X4_lay_62 h
theorem e_X10_fan_0 : kk_d cX10_fan 0 (.aload_n 0) 1 1 := ⟨by decide +kernel, rfl⟩
theorem e_X10_fan_1 : kk_d cX10_fan 1 (.getfield 10) 3 4 := ⟨by decide +kernel, rfl⟩
theorem e_X10_fan_4 : kk_d cX10_fan 4 (.iload_n 1) 1 5 := ⟨by decide +kernel, rfl⟩
theorem e_X10_fan_5 : kk_d cX10_fan 5 (.invokevirtual 124) 3 8 := ⟨by decide +kernel, rfl⟩
theorem e_X10_fan_8 : kk_dj cX10_fan 8 (.ifCond .eq 34) 3 (34) 11 42 := ⟨by decide +kernel, rfl, by decide⟩
theorem e_X10_fan_42 : kk_d cX10_fan 42 (.iconst (-1)) 1 43 := ⟨by decide +kernel, rfl⟩
theorem e_X10_fan_43 : kk_d cX10_fan 43 .ireturn 1 44 := ⟨by decide +kernel, rfl⟩
theorem e_X10_fan_11 : kk_d cX10_fan 11 (.iload_n 3) 1 12 := ⟨by decide +kernel, rfl⟩
theorem e_X10_fan_12 : kk_d cX10_fan 12 (.iconst (-1)) 1 13 := ⟨by decide +kernel, rfl⟩
theorem e_X10_fan_13 : kk_dj cX10_fan 13 (.if_icmp .lt 29) 3 (29) 16 42 := ⟨by decide +kernel, rfl, by decide⟩
theorem e_X10_fan_16 : kk_d cX10_fan 16 (.aload_n 0) 1 17 := ⟨by decide +kernel, rfl⟩
theorem e_X10_fan_17 : kk_d cX10_fan 17 (.getfield 10) 3 20 := ⟨by decide +kernel, rfl⟩
theorem e_X10_fan_20 : kk_d cX10_fan 20 (.getfield 197) 3 23 := ⟨by decide +kernel, rfl⟩
theorem e_X10_fan_23 : kk_d cX10_fan 23 (.iload_n 1) 1 24 := ⟨by decide +kernel, rfl⟩
theorem e_X10_fan_24 : kk_d cX10_fan 24 .iaload 1 25 := ⟨by decide +kernel, rfl⟩
theorem e_X10_fan_25 : kk_d cX10_fan 25 (.iload_n 2) 1 26 := ⟨by decide +kernel, rfl⟩
theorem e_X10_fan_26 : kk_dj cX10_fan 26 (.if_icmp .eq 18) 3 (18) 29 44 := ⟨by decide +kernel, rfl, by decide⟩
theorem e_X10_fan_44 : kk_d cX10_fan 44 (.aload_n 0) 1 45 := ⟨by decide +kernel, rfl⟩
theorem e_X10_fan_45 : kk_d cX10_fan 45 (.getfield 21) 3 48 := ⟨by decide +kernel, rfl⟩
theorem e_X10_fan_48 : kk_d cX10_fan 48 (.getfield 137) 3 51 := ⟨by decide +kernel, rfl⟩
theorem e_X10_fan_51 : kk_d cX10_fan 51 (.iload_n 1) 1 52 := ⟨by decide +kernel, rfl⟩
theorem e_X10_fan_52 : kk_d cX10_fan 52 .iaload 1 53 := ⟨by decide +kernel, rfl⟩
theorem e_X10_fan_53 : kk_d cX10_fan 53 (.iconst (-1)) 1 54 := ⟨by decide +kernel, rfl⟩
theorem e_X10_fan_54 : kk_dj cX10_fan 54 (.if_icmp .eq 6) 3 (6) 57 60 := ⟨by decide +kernel, rfl, by decide⟩
theorem e_X10_fan_60 : kk_d cX10_fan 60 (.aload_n 0) 1 61 := ⟨by decide +kernel, rfl⟩
theorem e_X10_fan_61 : kk_d cX10_fan 61 (.getfield 30) 3 64 := ⟨by decide +kernel, rfl⟩
theorem e_X10_fan_64 : kk_d cX10_fan 64 (.iload_n 1) 1 65 := ⟨by decide +kernel, rfl⟩
theorem e_X10_fan_65 : kk_d cX10_fan 65 (.iload_n 2) 1 66 := ⟨by decide +kernel, rfl⟩
theorem e_X10_fan_66 : kk_d cX10_fan 66 (.invokevirtual 248) 3 69 := ⟨by decide +kernel, rfl⟩
theorem e_X10_fan_69 : kk_d cX10_fan 69 (.iload_n 3) 1 70 := ⟨by decide +kernel, rfl⟩
theorem e_X10_fan_70 : kk_d cX10_fan 70 (.iconst (-1)) 1 71 := ⟨by decide +kernel, rfl⟩
theorem e_X10_fan_71 : kk_dj cX10_fan 71 (.if_icmp .ne 11) 3 (11) 74 82 := ⟨by decide +kernel, rfl, by decide⟩
theorem e_X10_fan_82 : kk_d cX10_fan 82 (.iload_n 3) 1 83 := ⟨by decide +kernel, rfl⟩
theorem e_X10_fan_83 : kk_d cX10_fan 83 (.aload_n 0) 1 84 := ⟨by decide +kernel, rfl⟩
theorem e_X10_fan_84 : kk_d cX10_fan 84 (.getfield 30) 3 87 := ⟨by decide +kernel, rfl⟩
theorem e_X10_fan_87 : kk_d cX10_fan 87 (.getfield 251) 3 90 := ⟨by decide +kernel, rfl⟩
theorem e_X10_fan_90 : kk_dj cX10_fan 90 (.if_icmp .ge 15) 3 (15) 93 105 := ⟨by decide +kernel, rfl, by decide⟩
theorem e_X10_fan_106 : kk_d cX10_fan 106 .ireturn 1 107 := ⟨by decide +kernel, rfl⟩
theorem e_X10_fan_105 : kk_d cX10_fan 105 (.iconst (-1)) 1 106 := ⟨by decide +kernel, rfl⟩
theorem e_X10_fan_93 : kk_d cX10_fan 93 (.aload_n 0) 1 94 := ⟨by decide +kernel, rfl⟩
theorem e_X10_fan_94 : kk_d cX10_fan 94 (.getfield 30) 3 97 := ⟨by decide +kernel, rfl⟩
theorem e_X10_fan_97 : kk_d cX10_fan 97 (.getfield 254) 3 100 := ⟨by decide +kernel, rfl⟩
theorem e_X10_fan_100 : kk_d cX10_fan 100 (.iload_n 3) 1 101 := ⟨by decide +kernel, rfl⟩
theorem e_X10_fan_101 : kk_d cX10_fan 101 .iaload 1 102 := ⟨by decide +kernel, rfl⟩
theorem e_X10_fan_102 : kk_dj cX10_fan 102 (.goto 4) 3 (4) 105 106 := ⟨by decide +kernel, rfl, by decide⟩
theorem e_X10_fan_74 : kk_d cX10_fan 74 (.aload_n 0) 1 75 := ⟨by decide +kernel, rfl⟩
theorem e_X10_fan_75 : kk_d cX10_fan 75 (.getfield 30) 3 78 := ⟨by decide +kernel, rfl⟩
theorem e_X10_fan_78 : kk_d cX10_fan 78 (.getfield 251) 3 81 := ⟨by decide +kernel, rfl⟩
theorem e_X10_fan_81 : kk_d cX10_fan 81 .ireturn 1 82 := ⟨by decide +kernel, rfl⟩
theorem e_X10_fan_57 : kk_d cX10_fan 57 (.bipush (-2)) 2 59 := ⟨by decide +kernel, rfl⟩
theorem e_X10_fan_59 : kk_d cX10_fan 59 .ireturn 1 60 := ⟨by decide +kernel, rfl⟩
theorem e_X10_fan_29 : kk_d cX10_fan 29 (.aload_n 0) 1 30 := ⟨by decide +kernel, rfl⟩
theorem e_X10_fan_30 : kk_d cX10_fan 30 (.getfield 10) 3 33 := ⟨by decide +kernel, rfl⟩
theorem e_X10_fan_33 : kk_d cX10_fan 33 (.getfield 200) 3 36 := ⟨by decide +kernel, rfl⟩
theorem e_X10_fan_36 : kk_d cX10_fan 36 (.iload_n 1) 1 37 := ⟨by decide +kernel, rfl⟩
theorem e_X10_fan_37 : kk_d cX10_fan 37 .iaload 1 38 := ⟨by decide +kernel, rfl⟩
theorem e_X10_fan_38 : kk_d cX10_fan 38 (.iload_n 2) 1 39 := ⟨by decide +kernel, rfl⟩
theorem e_X10_fan_39 : kk_dj cX10_fan 39 (.if_icmp .eq 5) 3 (5) 42 44 := ⟨by decide +kernel, rfl, by decide⟩
set_option maxRecDepth 4000 in
theorem s_X10_fan (Z : kk_Z) (v1 : Int32) (v2 : Int32) (v3 : Int32) (σ : kk_St) (Q : Int32 → kk_St → Prop) (h : f_X10_fan v1 v2 v3 σ Q) : kk_M Z sh_C yX10_fan cX10_fan 4 (some .int) (kk_R 6) [.ref (Z.2.1 0), .int v1, .int v2, .int v3] σ (kk_Qi Z sh_C Q) := by
  unfold f_X10_fan at h
  refine kk_met (own := RX10) (by decide) rfl (Nat.le_of_ble_eq_true rfl) rfl ?_
  refine kk_aload_n 0 rfl e_X10_fan_0 ?_
  refine kk_getr e_X10_fan_1 fl_X10_10 rfl rfl ?_
  refine kk_iload_n 1 rfl e_X10_fan_4 ?_
  refine kk_callVip (As := [.int v1]) (rest := []) e_X10_fan_5 ml_X10_124 ⟨_, _, _, _, rfl, rfl⟩ rfl (kk_fitR (by decide) (by decide)) (Nat.le_of_ble_eq_true rfl) rfl (s_X6_isLine Z v1 σ _ h) (fun r_1 h => ?_)
  refine kk_jW0 (P := KK Z sh_C RX10 cX10_fan 4 (some .int) (kk_R 6) (kk_Qi Z sh_C Q) 42 [] [] σ) h ?_ ?_
  · intro h
    refine kk_iconst ic_m1 e_X10_fan_42 ?_
    exact kk_iret e_X10_fan_43 h
  · intro J_2 hJ_2 h
    refine kk_if_eq e_X10_fan_8 (fun c_13 => ?_) (fun c_13 => ?_)
    · replace h := h.1 c_13
      exact kk_sub [] rfl (hJ_2 h)
    · replace h := h.2 c_13
      refine kk_iload_n 3 rfl e_X10_fan_11 ?_
      refine kk_iconst ic_m1 e_X10_fan_12 ?_
      refine kk_icmp_lt e_X10_fan_13 (fun c_12 => ?_) (fun c_12 => ?_)
      · replace h := h.1 c_12
        exact kk_sub [] rfl (hJ_2 h)
      · replace h := h.2 c_12
        refine kk_aload_n 0 rfl e_X10_fan_16 ?_
        refine kk_getr e_X10_fan_17 fl_X10_10 rfl rfl ?_
        refine kk_getr e_X10_fan_20 fl_X10_197 rfl rfl ?_
        refine kk_iload_n 1 rfl e_X10_fan_23 ?_
        refine kk_iald e_X10_fan_24 rfl h.1 ?_
        replace h := h.2
        refine kk_iload_n 2 rfl e_X10_fan_25 ?_
        refine kk_jW0 (P := KK Z sh_C RX10 cX10_fan 4 (some .int) (kk_R 6) (kk_Qi Z sh_C Q) 44 [(0, .ref (Z.2.1 0)), (1, .int v1), (2, .int v2), (3, .int v3)] [] σ) h ?_ ?_
        · intro h
          refine kk_aload_n 0 rfl e_X10_fan_44 ?_
          refine kk_getr e_X10_fan_45 fl_X10_21 rfl rfl ?_
          refine kk_getr e_X10_fan_48 fl_X10_137 rfl rfl ?_
          refine kk_iload_n 1 rfl e_X10_fan_51 ?_
          refine kk_iald e_X10_fan_52 rfl h.1 ?_
          replace h := h.2
          refine kk_iconst ic_m1 e_X10_fan_53 ?_
          refine kk_icmp_eq e_X10_fan_54 (fun c_9 => ?_) (fun c_9 => ?_)
          · replace h := h.1 c_9
            refine kk_aload_n 0 rfl e_X10_fan_60 ?_
            refine kk_getr e_X10_fan_61 fl_X10_30 rfl rfl ?_
            refine kk_iload_n 1 rfl e_X10_fan_64 ?_
            refine kk_iload_n 2 rfl e_X10_fan_65 ?_
            refine kk_callVv (As := [.int v1, .int v2]) (rest := []) e_X10_fan_66 ml_X10_248 ⟨_, _, _, _, rfl, rfl⟩ rfl (kk_fitR (by decide) (by decide)) (Nat.le_of_ble_eq_true rfl) rfl (s_X4_lay Z v1 v2 σ _ h) (fun σ_4 h => ?_)
            refine kk_iload_n 3 rfl e_X10_fan_69 ?_
            refine kk_iconst ic_m1 e_X10_fan_70 ?_
            refine kk_icmp_ne e_X10_fan_71 (fun c_8 => ?_) (fun c_8 => ?_)
            · replace h := h.1 c_8
              refine kk_iload_n 3 rfl e_X10_fan_82 ?_
              refine kk_aload_n 0 rfl e_X10_fan_83 ?_
              refine kk_getr e_X10_fan_84 fl_X10_30 rfl rfl ?_
              refine kk_geti e_X10_fan_87 fl_X10_251 rfl rfl ?_
              refine kk_jW1 (P := fun (t_5 : Int32) => KK Z sh_C RX10 cX10_fan 4 (some .int) (kk_R 6) (kk_Qi Z sh_C Q) 106 [] [.int t_5] σ_4) h ?_ ?_
              · intro t_5 h
                exact kk_iret e_X10_fan_106 h
              · intro J_6 hJ_6 h
                refine kk_icmp_ge e_X10_fan_90 (fun c_7 => ?_) (fun c_7 => ?_)
                · replace h := h.1 c_7
                  refine kk_iconst ic_m1 e_X10_fan_105 ?_
                  exact kk_sub [] rfl (hJ_6 (-1 : Int32) h)
                · replace h := h.2 c_7
                  refine kk_aload_n 0 rfl e_X10_fan_93 ?_
                  refine kk_getr e_X10_fan_94 fl_X10_30 rfl rfl ?_
                  refine kk_getr e_X10_fan_97 fl_X10_254 rfl rfl ?_
                  refine kk_iload_n 3 rfl e_X10_fan_100 ?_
                  refine kk_iald e_X10_fan_101 rfl h.1 ?_
                  replace h := h.2
                  refine kk_goto e_X10_fan_102 ?_
                  exact kk_sub [] rfl (hJ_6 (kk_rd σ_4 18 v3) h)
            · replace h := h.2 c_8
              refine kk_aload_n 0 rfl e_X10_fan_74 ?_
              refine kk_getr e_X10_fan_75 fl_X10_30 rfl rfl ?_
              refine kk_geti e_X10_fan_78 fl_X10_251 rfl rfl ?_
              exact kk_iret e_X10_fan_81 h
          · replace h := h.2 c_9
            refine kk_bipush bp_m2 e_X10_fan_57 ?_
            exact kk_iret e_X10_fan_59 h
        · intro J_3 hJ_3 h
          refine kk_icmp_eq e_X10_fan_26 (fun c_11 => ?_) (fun c_11 => ?_)
          · replace h := h.1 c_11
            exact kk_sub [0, 1, 2, 3] rfl (hJ_3 h)
          · replace h := h.2 c_11
            refine kk_aload_n 0 rfl e_X10_fan_29 ?_
            refine kk_getr e_X10_fan_30 fl_X10_10 rfl rfl ?_
            refine kk_getr e_X10_fan_33 fl_X10_200 rfl rfl ?_
            refine kk_iload_n 1 rfl e_X10_fan_36 ?_
            refine kk_iald e_X10_fan_37 rfl h.1 ?_
            replace h := h.2
            refine kk_iload_n 2 rfl e_X10_fan_38 ?_
            refine kk_icmp_eq e_X10_fan_39 (fun c_10 => ?_) (fun c_10 => ?_)
            · replace h := h.1 c_10
              exact kk_sub [0, 1, 2, 3] rfl (hJ_3 h)
            · replace h := h.2 c_10
              exact kk_sub [] rfl (hJ_2 h)
theorem e_X10_isFew_0 : kk_d cX10_isFew 0 (.iload_n 0) 1 1 := ⟨by decide +kernel, rfl⟩
theorem e_X10_isFew_1 : kk_dj cX10_isFew 1 (.ifCond .lt 13) 3 (13) 4 14 := ⟨by decide +kernel, rfl, by decide⟩
theorem e_X10_isFew_15 : kk_d cX10_isFew 15 .ireturn 1 16 := ⟨by decide +kernel, rfl⟩
theorem e_X10_isFew_14 : kk_d cX10_isFew 14 (.iconst 0) 1 15 := ⟨by decide +kernel, rfl⟩
theorem e_X10_isFew_4 : kk_d cX10_isFew 4 (.iload_n 0) 1 5 := ⟨by decide +kernel, rfl⟩
theorem e_X10_isFew_5 : kk_d cX10_isFew 5 (.bipush 9) 2 7 := ⟨by decide +kernel, rfl⟩
theorem e_X10_isFew_7 : kk_dj cX10_isFew 7 (.if_icmp .gt 7) 3 (7) 10 14 := ⟨by decide +kernel, rfl, by decide⟩
theorem e_X10_isFew_10 : kk_d cX10_isFew 10 (.iconst 1) 1 11 := ⟨by decide +kernel, rfl⟩
theorem e_X10_isFew_11 : kk_dj cX10_isFew 11 (.goto 4) 3 (4) 14 15 := ⟨by decide +kernel, rfl, by decide⟩
set_option maxRecDepth 4000 in
theorem s_X10_isFew (Z : kk_Z) (v0 : Int32) (σ : kk_St) (Q : Int32 → Prop) (h : f_X10_isFew v0 Q) : kk_M Z sh_C yX10_isFew cX10_isFew 1 (some .boolean) (kk_R 2) [.int v0] σ (kk_Qi Z sh_C (fun r σ' => σ' = σ ∧ Q r)) := by
  unfold f_X10_isFew at h
  refine kk_met (own := RX10) (by decide) rfl (Nat.le_of_ble_eq_true rfl) rfl ?_
  refine kk_iload_n 0 rfl e_X10_isFew_0 ?_
  refine kk_jW1 (P := fun (t_1 : Int32) => KK Z sh_C RX10 cX10_isFew 1 (some .boolean) (kk_R 2) (kk_Qi Z sh_C (fun r σ' => σ' = σ ∧ Q r)) 15 [] [.int t_1] σ) h ?_ ?_
  · intro t_1 h
    exact kk_zret e_X10_isFew_15 h.1 ⟨rfl, h.2⟩
  · intro J_2 hJ_2 h
    refine kk_jW0 (P := KK Z sh_C RX10 cX10_isFew 1 (some .boolean) (kk_R 2) (kk_Qi Z sh_C (fun r σ' => σ' = σ ∧ Q r)) 14 [] [] σ) h ?_ ?_
    · intro h
      refine kk_iconst ic_0 e_X10_isFew_14 ?_
      exact kk_sub [] rfl (hJ_2 (0 : Int32) h)
    · intro J_3 hJ_3 h
      refine kk_if_lt e_X10_isFew_1 (fun c_5 => ?_) (fun c_5 => ?_)
      · replace h := h.1 c_5
        exact kk_sub [] rfl (hJ_3 h)
      · replace h := h.2 c_5
        refine kk_iload_n 0 rfl e_X10_isFew_4 ?_
        refine kk_bipush bp_9 e_X10_isFew_5 ?_
        refine kk_icmp_gt e_X10_isFew_7 (fun c_4 => ?_) (fun c_4 => ?_)
        · replace h := h.1 c_4
          exact kk_sub [] rfl (hJ_3 h)
        · replace h := h.2 c_4
          refine kk_iconst ic_1 e_X10_isFew_10 ?_
          refine kk_goto e_X10_isFew_11 ?_
          exact kk_sub [] rfl (hJ_2 (1 : Int32) h)
