theorem e_J6_bitCount_0f7a4_0 : kk_d cJ6_bitCount_0f7a4 0 (.iload_n 0) 1 1 := ⟨by decide +kernel, rfl⟩
theorem e_J6_bitCount_0f7a4_1 : kk_d cJ6_bitCount_0f7a4 1 (.iload_n 0) 1 2 := ⟨by decide +kernel, rfl⟩
theorem e_J6_bitCount_0f7a4_2 : kk_d cJ6_bitCount_0f7a4 2 (.iconst 1) 1 3 := ⟨by decide +kernel, rfl⟩
theorem e_J6_bitCount_0f7a4_3 : kk_d cJ6_bitCount_0f7a4 3 .iushr 1 4 := ⟨by decide +kernel, rfl⟩
theorem e_J6_bitCount_0f7a4_4 : kk_d cJ6_bitCount_0f7a4 4 (.ldc_w 265) 3 7 := ⟨by decide +kernel, rfl⟩
theorem e_J6_bitCount_0f7a4_7 : kk_d cJ6_bitCount_0f7a4 7 .iand 1 8 := ⟨by decide +kernel, rfl⟩
theorem e_J6_bitCount_0f7a4_8 : kk_d cJ6_bitCount_0f7a4 8 .isub 1 9 := ⟨by decide +kernel, rfl⟩
theorem e_J6_bitCount_0f7a4_9 : kk_d cJ6_bitCount_0f7a4 9 (.istore_n 0) 1 10 := ⟨by decide +kernel, rfl⟩
theorem e_J6_bitCount_0f7a4_10 : kk_d cJ6_bitCount_0f7a4 10 (.iload_n 0) 1 11 := ⟨by decide +kernel, rfl⟩
theorem e_J6_bitCount_0f7a4_11 : kk_d cJ6_bitCount_0f7a4 11 (.ldc_w 266) 3 14 := ⟨by decide +kernel, rfl⟩
theorem e_J6_bitCount_0f7a4_14 : kk_d cJ6_bitCount_0f7a4 14 .iand 1 15 := ⟨by decide +kernel, rfl⟩
theorem e_J6_bitCount_0f7a4_15 : kk_d cJ6_bitCount_0f7a4 15 (.iload_n 0) 1 16 := ⟨by decide +kernel, rfl⟩
theorem e_J6_bitCount_0f7a4_16 : kk_d cJ6_bitCount_0f7a4 16 (.iconst 2) 1 17 := ⟨by decide +kernel, rfl⟩
theorem e_J6_bitCount_0f7a4_17 : kk_d cJ6_bitCount_0f7a4 17 .iushr 1 18 := ⟨by decide +kernel, rfl⟩
theorem e_J6_bitCount_0f7a4_18 : kk_d cJ6_bitCount_0f7a4 18 (.ldc_w 266) 3 21 := ⟨by decide +kernel, rfl⟩
theorem e_J6_bitCount_0f7a4_21 : kk_d cJ6_bitCount_0f7a4 21 .iand 1 22 := ⟨by decide +kernel, rfl⟩
theorem e_J6_bitCount_0f7a4_22 : kk_d cJ6_bitCount_0f7a4 22 .iadd 1 23 := ⟨by decide +kernel, rfl⟩
theorem e_J6_bitCount_0f7a4_23 : kk_d cJ6_bitCount_0f7a4 23 (.istore_n 0) 1 24 := ⟨by decide +kernel, rfl⟩
theorem e_J6_bitCount_0f7a4_24 : kk_d cJ6_bitCount_0f7a4 24 (.iload_n 0) 1 25 := ⟨by decide +kernel, rfl⟩
theorem e_J6_bitCount_0f7a4_25 : kk_d cJ6_bitCount_0f7a4 25 (.iload_n 0) 1 26 := ⟨by decide +kernel, rfl⟩
theorem e_J6_bitCount_0f7a4_26 : kk_d cJ6_bitCount_0f7a4 26 (.iconst 4) 1 27 := ⟨by decide +kernel, rfl⟩
theorem e_J6_bitCount_0f7a4_27 : kk_d cJ6_bitCount_0f7a4 27 .iushr 1 28 := ⟨by decide +kernel, rfl⟩
theorem e_J6_bitCount_0f7a4_28 : kk_d cJ6_bitCount_0f7a4 28 .iadd 1 29 := ⟨by decide +kernel, rfl⟩
theorem e_J6_bitCount_0f7a4_29 : kk_d cJ6_bitCount_0f7a4 29 (.ldc_w 267) 3 32 := ⟨by decide +kernel, rfl⟩
theorem e_J6_bitCount_0f7a4_32 : kk_d cJ6_bitCount_0f7a4 32 .iand 1 33 := ⟨by decide +kernel, rfl⟩
theorem e_J6_bitCount_0f7a4_33 : kk_d cJ6_bitCount_0f7a4 33 (.istore_n 0) 1 34 := ⟨by decide +kernel, rfl⟩
theorem e_J6_bitCount_0f7a4_34 : kk_d cJ6_bitCount_0f7a4 34 (.iload_n 0) 1 35 := ⟨by decide +kernel, rfl⟩
theorem e_J6_bitCount_0f7a4_35 : kk_d cJ6_bitCount_0f7a4 35 (.iload_n 0) 1 36 := ⟨by decide +kernel, rfl⟩
theorem e_J6_bitCount_0f7a4_36 : kk_d cJ6_bitCount_0f7a4 36 (.bipush 8) 2 38 := ⟨by decide +kernel, rfl⟩
theorem e_J6_bitCount_0f7a4_38 : kk_d cJ6_bitCount_0f7a4 38 .iushr 1 39 := ⟨by decide +kernel, rfl⟩
theorem e_J6_bitCount_0f7a4_39 : kk_d cJ6_bitCount_0f7a4 39 .iadd 1 40 := ⟨by decide +kernel, rfl⟩
theorem e_J6_bitCount_0f7a4_40 : kk_d cJ6_bitCount_0f7a4 40 (.istore_n 0) 1 41 := ⟨by decide +kernel, rfl⟩
theorem e_J6_bitCount_0f7a4_41 : kk_d cJ6_bitCount_0f7a4 41 (.iload_n 0) 1 42 := ⟨by decide +kernel, rfl⟩
theorem e_J6_bitCount_0f7a4_42 : kk_d cJ6_bitCount_0f7a4 42 (.iload_n 0) 1 43 := ⟨by decide +kernel, rfl⟩
theorem e_J6_bitCount_0f7a4_43 : kk_d cJ6_bitCount_0f7a4 43 (.bipush 16) 2 45 := ⟨by decide +kernel, rfl⟩
theorem e_J6_bitCount_0f7a4_45 : kk_d cJ6_bitCount_0f7a4 45 .iushr 1 46 := ⟨by decide +kernel, rfl⟩
theorem e_J6_bitCount_0f7a4_46 : kk_d cJ6_bitCount_0f7a4 46 .iadd 1 47 := ⟨by decide +kernel, rfl⟩
theorem e_J6_bitCount_0f7a4_47 : kk_d cJ6_bitCount_0f7a4 47 (.istore_n 0) 1 48 := ⟨by decide +kernel, rfl⟩
theorem e_J6_bitCount_0f7a4_48 : kk_d cJ6_bitCount_0f7a4 48 (.iload_n 0) 1 49 := ⟨by decide +kernel, rfl⟩
theorem e_J6_bitCount_0f7a4_49 : kk_d cJ6_bitCount_0f7a4 49 (.bipush 63) 2 51 := ⟨by decide +kernel, rfl⟩
theorem e_J6_bitCount_0f7a4_51 : kk_d cJ6_bitCount_0f7a4 51 .iand 1 52 := ⟨by decide +kernel, rfl⟩
theorem e_J6_bitCount_0f7a4_52 : kk_d cJ6_bitCount_0f7a4 52 .ireturn 1 53 := ⟨by decide +kernel, rfl⟩
set_option maxRecDepth 4000 in
theorem s_J6_bitCount_0f7a4 (Z : kk_Z) (v0 : Int32) (σ : kk_St) (Q : Int32 → Prop) (h : f_J6_bitCount_0f7a4 v0 Q) : kk_M Z sh_C yJ6_bitCount_0f7a4 cJ6_bitCount_0f7a4 1 (some .int) (kk_R 2) [.int v0] σ (kk_Qi Z sh_C (fun r σ' => σ' = σ ∧ Q r)) := by
  unfold f_J6_bitCount_0f7a4 at h
  refine kk_met (own := RJ6) (by decide) rfl (Nat.le_of_ble_eq_true rfl) rfl ?_
  refine kk_iload_n 0 rfl e_J6_bitCount_0f7a4_0 ?_
  refine kk_iload_n 0 rfl e_J6_bitCount_0f7a4_1 ?_
  refine kk_iconst ic_1 e_J6_bitCount_0f7a4_2 ?_
  refine kk_iushr e_J6_bitCount_0f7a4_3 ?_
  refine kk_ldcw e_J6_bitCount_0f7a4_4 cw_J6_265 ?_
  refine kk_iand e_J6_bitCount_0f7a4_7 ?_
  refine kk_isub e_J6_bitCount_0f7a4_8 ?_
  refine kk_topi (fun v0_1 ev0_1 => ?_)
  replace h := h v0_1 ev0_1
  refine kk_istore_n (lv' := [(0, .int v0_1)]) e_J6_bitCount_0f7a4_9 rfl (by decide) rfl ?_
  refine kk_iload_n 0 rfl e_J6_bitCount_0f7a4_10 ?_
  refine kk_ldcw e_J6_bitCount_0f7a4_11 cw_J6_266 ?_
  refine kk_iand e_J6_bitCount_0f7a4_14 ?_
  refine kk_iload_n 0 rfl e_J6_bitCount_0f7a4_15 ?_
  refine kk_iconst ic_2 e_J6_bitCount_0f7a4_16 ?_
  refine kk_iushr e_J6_bitCount_0f7a4_17 ?_
  refine kk_ldcw e_J6_bitCount_0f7a4_18 cw_J6_266 ?_
  refine kk_iand e_J6_bitCount_0f7a4_21 ?_
  refine kk_iadd e_J6_bitCount_0f7a4_22 ?_
  refine kk_topi (fun v0_2 ev0_2 => ?_)
  replace h := h v0_2 ev0_2
  refine kk_istore_n (lv' := [(0, .int v0_2)]) e_J6_bitCount_0f7a4_23 rfl (by decide) rfl ?_
  refine kk_iload_n 0 rfl e_J6_bitCount_0f7a4_24 ?_
  refine kk_iload_n 0 rfl e_J6_bitCount_0f7a4_25 ?_
  refine kk_iconst ic_4 e_J6_bitCount_0f7a4_26 ?_
  refine kk_iushr e_J6_bitCount_0f7a4_27 ?_
  refine kk_iadd e_J6_bitCount_0f7a4_28 ?_
  refine kk_ldcw e_J6_bitCount_0f7a4_29 cw_J6_267 ?_
  refine kk_iand e_J6_bitCount_0f7a4_32 ?_
  refine kk_topi (fun v0_3 ev0_3 => ?_)
  replace h := h v0_3 ev0_3
  refine kk_istore_n (lv' := [(0, .int v0_3)]) e_J6_bitCount_0f7a4_33 rfl (by decide) rfl ?_
  refine kk_iload_n 0 rfl e_J6_bitCount_0f7a4_34 ?_
  refine kk_iload_n 0 rfl e_J6_bitCount_0f7a4_35 ?_
  refine kk_bipush bp_8 e_J6_bitCount_0f7a4_36 ?_
  refine kk_iushr e_J6_bitCount_0f7a4_38 ?_
  refine kk_iadd e_J6_bitCount_0f7a4_39 ?_
  refine kk_topi (fun v0_4 ev0_4 => ?_)
  replace h := h v0_4 ev0_4
  refine kk_istore_n (lv' := [(0, .int v0_4)]) e_J6_bitCount_0f7a4_40 rfl (by decide) rfl ?_
  refine kk_iload_n 0 rfl e_J6_bitCount_0f7a4_41 ?_
  refine kk_iload_n 0 rfl e_J6_bitCount_0f7a4_42 ?_
  refine kk_bipush bp_16 e_J6_bitCount_0f7a4_43 ?_
  refine kk_iushr e_J6_bitCount_0f7a4_45 ?_
  refine kk_iadd e_J6_bitCount_0f7a4_46 ?_
  refine kk_topi (fun v0_5 ev0_5 => ?_)
  replace h := h v0_5 ev0_5
  refine kk_istore_n (lv' := [(0, .int v0_5)]) e_J6_bitCount_0f7a4_47 rfl (by decide) rfl ?_
  refine kk_iload_n 0 rfl e_J6_bitCount_0f7a4_48 ?_
  refine kk_bipush bp_63 e_J6_bitCount_0f7a4_49 ?_
  refine kk_iand e_J6_bitCount_0f7a4_51 ?_
  exact kk_iret e_J6_bitCount_0f7a4_52 ⟨rfl, h⟩
theorem e_J6_compare_7cf53_0 : kk_d cJ6_compare_7cf53 0 (.iload_n 0) 1 1 := ⟨by decide +kernel, rfl⟩
theorem e_J6_compare_7cf53_1 : kk_d cJ6_compare_7cf53 1 (.iload_n 1) 1 2 := ⟨by decide +kernel, rfl⟩
theorem e_J6_compare_7cf53_2 : kk_dj cJ6_compare_7cf53 2 (.if_icmp .ge 7) 3 (7) 5 9 := ⟨by decide +kernel, rfl, by decide⟩
theorem e_J6_compare_7cf53_19 : kk_d cJ6_compare_7cf53 19 .ireturn 1 20 := ⟨by decide +kernel, rfl⟩
theorem e_J6_compare_7cf53_9 : kk_d cJ6_compare_7cf53 9 (.iload_n 0) 1 10 := ⟨by decide +kernel, rfl⟩
theorem e_J6_compare_7cf53_10 : kk_d cJ6_compare_7cf53 10 (.iload_n 1) 1 11 := ⟨by decide +kernel, rfl⟩
theorem e_J6_compare_7cf53_11 : kk_dj cJ6_compare_7cf53 11 (.if_icmp .ne 7) 3 (7) 14 18 := ⟨by decide +kernel, rfl, by decide⟩
theorem e_J6_compare_7cf53_18 : kk_d cJ6_compare_7cf53 18 (.iconst 1) 1 19 := ⟨by decide +kernel, rfl⟩
theorem e_J6_compare_7cf53_14 : kk_d cJ6_compare_7cf53 14 (.iconst 0) 1 15 := ⟨by decide +kernel, rfl⟩
theorem e_J6_compare_7cf53_15 : kk_dj cJ6_compare_7cf53 15 (.goto 4) 3 (4) 18 19 := ⟨by decide +kernel, rfl, by decide⟩
theorem e_J6_compare_7cf53_5 : kk_d cJ6_compare_7cf53 5 (.iconst (-1)) 1 6 := ⟨by decide +kernel, rfl⟩
theorem e_J6_compare_7cf53_6 : kk_dj cJ6_compare_7cf53 6 (.goto 13) 3 (13) 9 19 := ⟨by decide +kernel, rfl, by decide⟩
set_option maxRecDepth 4000 in
theorem s_J6_compare_7cf53 (Z : kk_Z) (v0 : Int32) (v1 : Int32) (σ : kk_St) (Q : Int32 → Prop) (h : f_J6_compare_7cf53 v0 v1 Q) : kk_M Z sh_C yJ6_compare_7cf53 cJ6_compare_7cf53 2 (some .int) (kk_R 2) [.int v0, .int v1] σ (kk_Qi Z sh_C (fun r σ' => σ' = σ ∧ Q r)) := by
  unfold f_J6_compare_7cf53 at h
  refine kk_met (own := RJ6) (by decide) rfl (Nat.le_of_ble_eq_true rfl) rfl ?_
  refine kk_iload_n 0 rfl e_J6_compare_7cf53_0 ?_
  refine kk_iload_n 1 rfl e_J6_compare_7cf53_1 ?_
  refine kk_jW1 (P := fun (t_1 : Int32) => KK Z sh_C RJ6 cJ6_compare_7cf53 2 (some .int) (kk_R 2) (kk_Qi Z sh_C (fun r σ' => σ' = σ ∧ Q r)) 19 [] [.int t_1] σ) h ?_ ?_
  · intro t_1 h
    exact kk_iret e_J6_compare_7cf53_19 ⟨rfl, h⟩
  · intro J_2 hJ_2 h
    refine kk_icmp_ge e_J6_compare_7cf53_2 (fun c_4 => ?_) (fun c_4 => ?_)
    · replace h := h.1 c_4
      refine kk_iload_n 0 rfl e_J6_compare_7cf53_9 ?_
      refine kk_iload_n 1 rfl e_J6_compare_7cf53_10 ?_
      refine kk_icmp_ne e_J6_compare_7cf53_11 (fun c_3 => ?_) (fun c_3 => ?_)
      · replace h := h.1 c_3
        refine kk_iconst ic_1 e_J6_compare_7cf53_18 ?_
        exact kk_sub [] rfl (hJ_2 (1 : Int32) h)
      · replace h := h.2 c_3
        refine kk_iconst ic_0 e_J6_compare_7cf53_14 ?_
        refine kk_goto e_J6_compare_7cf53_15 ?_
        exact kk_sub [] rfl (hJ_2 (0 : Int32) h)
    · replace h := h.2 c_4
      refine kk_iconst ic_m1 e_J6_compare_7cf53_5 ?_
      refine kk_goto e_J6_compare_7cf53_6 ?_
      exact kk_sub [] rfl (hJ_2 (-1 : Int32) h)
theorem e_J6_lowestOneBit_0f7a4_0 : kk_d cJ6_lowestOneBit_0f7a4 0 (.iload_n 0) 1 1 := ⟨by decide +kernel, rfl⟩
theorem e_J6_lowestOneBit_0f7a4_1 : kk_d cJ6_lowestOneBit_0f7a4 1 (.iload_n 0) 1 2 := ⟨by decide +kernel, rfl⟩
theorem e_J6_lowestOneBit_0f7a4_2 : kk_d cJ6_lowestOneBit_0f7a4 2 .ineg 1 3 := ⟨by decide +kernel, rfl⟩
theorem e_J6_lowestOneBit_0f7a4_3 : kk_d cJ6_lowestOneBit_0f7a4 3 .iand 1 4 := ⟨by decide +kernel, rfl⟩
theorem e_J6_lowestOneBit_0f7a4_4 : kk_d cJ6_lowestOneBit_0f7a4 4 .ireturn 1 5 := ⟨by decide +kernel, rfl⟩
set_option maxRecDepth 4000 in
theorem s_J6_lowestOneBit_0f7a4 (Z : kk_Z) (v0 : Int32) (σ : kk_St) (Q : Int32 → Prop) (h : f_J6_lowestOneBit_0f7a4 v0 Q) : kk_M Z sh_C yJ6_lowestOneBit_0f7a4 cJ6_lowestOneBit_0f7a4 1 (some .int) (kk_R 2) [.int v0] σ (kk_Qi Z sh_C (fun r σ' => σ' = σ ∧ Q r)) := by
  unfold f_J6_lowestOneBit_0f7a4 at h
  refine kk_met (own := RJ6) (by decide) rfl (Nat.le_of_ble_eq_true rfl) rfl ?_
  refine kk_iload_n 0 rfl e_J6_lowestOneBit_0f7a4_0 ?_
  refine kk_iload_n 0 rfl e_J6_lowestOneBit_0f7a4_1 ?_
  refine kk_ineg e_J6_lowestOneBit_0f7a4_2 ?_
  refine kk_iand e_J6_lowestOneBit_0f7a4_3 ?_
  exact kk_iret e_J6_lowestOneBit_0f7a4_4 ⟨rfl, h⟩
theorem e_J6_numberOfLeadingZeros_0f7a4_0 : kk_d cJ6_numberOfLeadingZeros_0f7a4 0 (.iload_n 0) 1 1 := ⟨by decide +kernel, rfl⟩
theorem e_J6_numberOfLeadingZeros_0f7a4_1 : kk_dj cJ6_numberOfLeadingZeros_0f7a4 1 (.ifCond .gt 14) 3 (14) 4 15 := ⟨by decide +kernel, rfl, by decide⟩
theorem e_J6_numberOfLeadingZeros_0f7a4_15 : kk_d cJ6_numberOfLeadingZeros_0f7a4 15 (.bipush 31) 2 17 := ⟨by decide +kernel, rfl⟩
theorem e_J6_numberOfLeadingZeros_0f7a4_17 : kk_d cJ6_numberOfLeadingZeros_0f7a4 17 (.istore_n 1) 1 18 := ⟨by decide +kernel, rfl⟩
theorem e_J6_numberOfLeadingZeros_0f7a4_18 : kk_d cJ6_numberOfLeadingZeros_0f7a4 18 (.iload_n 0) 1 19 := ⟨by decide +kernel, rfl⟩
theorem e_J6_numberOfLeadingZeros_0f7a4_19 : kk_d cJ6_numberOfLeadingZeros_0f7a4 19 (.ldc_w 264) 3 22 := ⟨by decide +kernel, rfl⟩
theorem e_J6_numberOfLeadingZeros_0f7a4_22 : kk_dj cJ6_numberOfLeadingZeros_0f7a4 22 (.if_icmp .lt 11) 3 (11) 25 33 := ⟨by decide +kernel, rfl, by decide⟩
theorem e_J6_numberOfLeadingZeros_0f7a4_33 : kk_d cJ6_numberOfLeadingZeros_0f7a4 33 (.iload_n 0) 1 34 := ⟨by decide +kernel, rfl⟩
theorem e_J6_numberOfLeadingZeros_0f7a4_34 : kk_d cJ6_numberOfLeadingZeros_0f7a4 34 (.sipush 256) 3 37 := ⟨by decide +kernel, rfl⟩
theorem e_J6_numberOfLeadingZeros_0f7a4_37 : kk_dj cJ6_numberOfLeadingZeros_0f7a4 37 (.if_icmp .lt 11) 3 (11) 40 48 := ⟨by decide +kernel, rfl, by decide⟩
theorem e_J6_numberOfLeadingZeros_0f7a4_48 : kk_d cJ6_numberOfLeadingZeros_0f7a4 48 (.iload_n 0) 1 49 := ⟨by decide +kernel, rfl⟩
theorem e_J6_numberOfLeadingZeros_0f7a4_49 : kk_d cJ6_numberOfLeadingZeros_0f7a4 49 (.bipush 16) 2 51 := ⟨by decide +kernel, rfl⟩
theorem e_J6_numberOfLeadingZeros_0f7a4_51 : kk_dj cJ6_numberOfLeadingZeros_0f7a4 51 (.if_icmp .lt 10) 3 (10) 54 61 := ⟨by decide +kernel, rfl, by decide⟩
theorem e_J6_numberOfLeadingZeros_0f7a4_61 : kk_d cJ6_numberOfLeadingZeros_0f7a4 61 (.iload_n 0) 1 62 := ⟨by decide +kernel, rfl⟩
theorem e_J6_numberOfLeadingZeros_0f7a4_62 : kk_d cJ6_numberOfLeadingZeros_0f7a4 62 (.iconst 4) 1 63 := ⟨by decide +kernel, rfl⟩
theorem e_J6_numberOfLeadingZeros_0f7a4_63 : kk_dj cJ6_numberOfLeadingZeros_0f7a4 63 (.if_icmp .lt 10) 3 (10) 66 73 := ⟨by decide +kernel, rfl, by decide⟩
theorem e_J6_numberOfLeadingZeros_0f7a4_73 : kk_d cJ6_numberOfLeadingZeros_0f7a4 73 (.iload_n 1) 1 74 := ⟨by decide +kernel, rfl⟩
theorem e_J6_numberOfLeadingZeros_0f7a4_74 : kk_d cJ6_numberOfLeadingZeros_0f7a4 74 (.iload_n 0) 1 75 := ⟨by decide +kernel, rfl⟩
theorem e_J6_numberOfLeadingZeros_0f7a4_75 : kk_d cJ6_numberOfLeadingZeros_0f7a4 75 (.iconst 1) 1 76 := ⟨by decide +kernel, rfl⟩
theorem e_J6_numberOfLeadingZeros_0f7a4_76 : kk_d cJ6_numberOfLeadingZeros_0f7a4 76 .iushr 1 77 := ⟨by decide +kernel, rfl⟩
theorem e_J6_numberOfLeadingZeros_0f7a4_77 : kk_d cJ6_numberOfLeadingZeros_0f7a4 77 .isub 1 78 := ⟨by decide +kernel, rfl⟩
theorem e_J6_numberOfLeadingZeros_0f7a4_78 : kk_d cJ6_numberOfLeadingZeros_0f7a4 78 .ireturn 1 79 := ⟨by decide +kernel, rfl⟩
theorem e_J6_numberOfLeadingZeros_0f7a4_66 : kk_d cJ6_numberOfLeadingZeros_0f7a4 66 (.iinc 1 (-2)) 3 69 := ⟨by decide +kernel, rfl⟩
theorem e_J6_numberOfLeadingZeros_0f7a4_69 : kk_d cJ6_numberOfLeadingZeros_0f7a4 69 (.iload_n 0) 1 70 := ⟨by decide +kernel, rfl⟩
theorem e_J6_numberOfLeadingZeros_0f7a4_70 : kk_d cJ6_numberOfLeadingZeros_0f7a4 70 (.iconst 2) 1 71 := ⟨by decide +kernel, rfl⟩
theorem e_J6_numberOfLeadingZeros_0f7a4_71 : kk_d cJ6_numberOfLeadingZeros_0f7a4 71 .iushr 1 72 := ⟨by decide +kernel, rfl⟩
theorem e_J6_numberOfLeadingZeros_0f7a4_72 : kk_d cJ6_numberOfLeadingZeros_0f7a4 72 (.istore_n 0) 1 73 := ⟨by decide +kernel, rfl⟩
theorem e_J6_numberOfLeadingZeros_0f7a4_54 : kk_d cJ6_numberOfLeadingZeros_0f7a4 54 (.iinc 1 (-4)) 3 57 := ⟨by decide +kernel, rfl⟩
theorem e_J6_numberOfLeadingZeros_0f7a4_57 : kk_d cJ6_numberOfLeadingZeros_0f7a4 57 (.iload_n 0) 1 58 := ⟨by decide +kernel, rfl⟩
theorem e_J6_numberOfLeadingZeros_0f7a4_58 : kk_d cJ6_numberOfLeadingZeros_0f7a4 58 (.iconst 4) 1 59 := ⟨by decide +kernel, rfl⟩
theorem e_J6_numberOfLeadingZeros_0f7a4_59 : kk_d cJ6_numberOfLeadingZeros_0f7a4 59 .iushr 1 60 := ⟨by decide +kernel, rfl⟩
theorem e_J6_numberOfLeadingZeros_0f7a4_60 : kk_d cJ6_numberOfLeadingZeros_0f7a4 60 (.istore_n 0) 1 61 := ⟨by decide +kernel, rfl⟩
theorem e_J6_numberOfLeadingZeros_0f7a4_40 : kk_d cJ6_numberOfLeadingZeros_0f7a4 40 (.iinc 1 (-8)) 3 43 := ⟨by decide +kernel, rfl⟩
theorem e_J6_numberOfLeadingZeros_0f7a4_43 : kk_d cJ6_numberOfLeadingZeros_0f7a4 43 (.iload_n 0) 1 44 := ⟨by decide +kernel, rfl⟩
theorem e_J6_numberOfLeadingZeros_0f7a4_44 : kk_d cJ6_numberOfLeadingZeros_0f7a4 44 (.bipush 8) 2 46 := ⟨by decide +kernel, rfl⟩
theorem e_J6_numberOfLeadingZeros_0f7a4_46 : kk_d cJ6_numberOfLeadingZeros_0f7a4 46 .iushr 1 47 := ⟨by decide +kernel, rfl⟩
theorem e_J6_numberOfLeadingZeros_0f7a4_47 : kk_d cJ6_numberOfLeadingZeros_0f7a4 47 (.istore_n 0) 1 48 := ⟨by decide +kernel, rfl⟩
theorem e_J6_numberOfLeadingZeros_0f7a4_25 : kk_d cJ6_numberOfLeadingZeros_0f7a4 25 (.iinc 1 (-16)) 3 28 := ⟨by decide +kernel, rfl⟩
theorem e_J6_numberOfLeadingZeros_0f7a4_28 : kk_d cJ6_numberOfLeadingZeros_0f7a4 28 (.iload_n 0) 1 29 := ⟨by decide +kernel, rfl⟩
theorem e_J6_numberOfLeadingZeros_0f7a4_29 : kk_d cJ6_numberOfLeadingZeros_0f7a4 29 (.bipush 16) 2 31 := ⟨by decide +kernel, rfl⟩
theorem e_J6_numberOfLeadingZeros_0f7a4_31 : kk_d cJ6_numberOfLeadingZeros_0f7a4 31 .iushr 1 32 := ⟨by decide +kernel, rfl⟩
theorem e_J6_numberOfLeadingZeros_0f7a4_32 : kk_d cJ6_numberOfLeadingZeros_0f7a4 32 (.istore_n 0) 1 33 := ⟨by decide +kernel, rfl⟩
theorem e_J6_numberOfLeadingZeros_0f7a4_4 : kk_d cJ6_numberOfLeadingZeros_0f7a4 4 (.iload_n 0) 1 5 := ⟨by decide +kernel, rfl⟩
theorem e_J6_numberOfLeadingZeros_0f7a4_5 : kk_dj cJ6_numberOfLeadingZeros_0f7a4 5 (.ifCond .ne 8) 3 (8) 8 13 := ⟨by decide +kernel, rfl, by decide⟩
theorem e_J6_numberOfLeadingZeros_0f7a4_14 : kk_d cJ6_numberOfLeadingZeros_0f7a4 14 .ireturn 1 15 := ⟨by decide +kernel, rfl⟩
theorem e_J6_numberOfLeadingZeros_0f7a4_13 : kk_d cJ6_numberOfLeadingZeros_0f7a4 13 (.iconst 0) 1 14 := ⟨by decide +kernel, rfl⟩
theorem e_J6_numberOfLeadingZeros_0f7a4_8 : kk_d cJ6_numberOfLeadingZeros_0f7a4 8 (.bipush 32) 2 10 := ⟨by decide +kernel, rfl⟩
theorem e_J6_numberOfLeadingZeros_0f7a4_10 : kk_dj cJ6_numberOfLeadingZeros_0f7a4 10 (.goto 4) 3 (4) 13 14 := ⟨by decide +kernel, rfl, by decide⟩
set_option maxRecDepth 4000 in
theorem s_J6_numberOfLeadingZeros_0f7a4 (Z : kk_Z) (v0 : Int32) (σ : kk_St) (Q : Int32 → Prop) (h : f_J6_numberOfLeadingZeros_0f7a4 v0 Q) : kk_M Z sh_C yJ6_numberOfLeadingZeros_0f7a4 cJ6_numberOfLeadingZeros_0f7a4 2 (some .int) (kk_R 2) [.int v0] σ (kk_Qi Z sh_C (fun r σ' => σ' = σ ∧ Q r)) := by
  unfold f_J6_numberOfLeadingZeros_0f7a4 at h
  refine kk_met (own := RJ6) (by decide) rfl (Nat.le_of_ble_eq_true rfl) rfl ?_
  refine kk_iload_n 0 rfl e_J6_numberOfLeadingZeros_0f7a4_0 ?_
  refine kk_if_gt e_J6_numberOfLeadingZeros_0f7a4_1 (fun c_20 => ?_) (fun c_20 => ?_)
  · replace h := h.1 c_20
    refine kk_bipush bp_31 e_J6_numberOfLeadingZeros_0f7a4_15 ?_
    refine kk_istore_n (lv' := [(1, .int (31 : Int32)), (0, .int v0)]) e_J6_numberOfLeadingZeros_0f7a4_17 rfl (by decide) rfl ?_
    refine kk_iload_n 1 rfl e_J6_numberOfLeadingZeros_0f7a4_18 ?_
    refine kk_ldcw e_J6_numberOfLeadingZeros_0f7a4_19 cw_J6_264 ?_
    refine kk_jW2 (P := fun (v0_1 : Int32) (v1_2 : Int32) => KK Z sh_C RJ6 cJ6_numberOfLeadingZeros_0f7a4 2 (some .int) (kk_R 2) (kk_Qi Z sh_C (fun r σ' => σ' = σ ∧ Q r)) 33 [(0, .int v0_1), (1, .int v1_2)] [] σ) h ?_ ?_
    · intro v0_1 v1_2 h
      refine kk_iload_n 0 rfl e_J6_numberOfLeadingZeros_0f7a4_33 ?_
      refine kk_sipush sp_256 e_J6_numberOfLeadingZeros_0f7a4_34 ?_
      refine kk_jW2 (P := fun (v0_4 : Int32) (v1_5 : Int32) => KK Z sh_C RJ6 cJ6_numberOfLeadingZeros_0f7a4 2 (some .int) (kk_R 2) (kk_Qi Z sh_C (fun r σ' => σ' = σ ∧ Q r)) 48 [(0, .int v0_4), (1, .int v1_5)] [] σ) h ?_ ?_
      · intro v0_4 v1_5 h
        refine kk_iload_n 0 rfl e_J6_numberOfLeadingZeros_0f7a4_48 ?_
        refine kk_bipush bp_16 e_J6_numberOfLeadingZeros_0f7a4_49 ?_
        refine kk_jW2 (P := fun (v0_7 : Int32) (v1_8 : Int32) => KK Z sh_C RJ6 cJ6_numberOfLeadingZeros_0f7a4 2 (some .int) (kk_R 2) (kk_Qi Z sh_C (fun r σ' => σ' = σ ∧ Q r)) 61 [(0, .int v0_7), (1, .int v1_8)] [] σ) h ?_ ?_
        · intro v0_7 v1_8 h
          refine kk_iload_n 0 rfl e_J6_numberOfLeadingZeros_0f7a4_61 ?_
          refine kk_iconst ic_4 e_J6_numberOfLeadingZeros_0f7a4_62 ?_
          refine kk_jW2 (P := fun (v0_10 : Int32) (v1_11 : Int32) => KK Z sh_C RJ6 cJ6_numberOfLeadingZeros_0f7a4 2 (some .int) (kk_R 2) (kk_Qi Z sh_C (fun r σ' => σ' = σ ∧ Q r)) 73 [(0, .int v0_10), (1, .int v1_11)] [] σ) h ?_ ?_
          · intro v0_10 v1_11 h
            refine kk_iload_n 1 rfl e_J6_numberOfLeadingZeros_0f7a4_73 ?_
            refine kk_iload_n 0 rfl e_J6_numberOfLeadingZeros_0f7a4_74 ?_
            refine kk_iconst ic_1 e_J6_numberOfLeadingZeros_0f7a4_75 ?_
            refine kk_iushr e_J6_numberOfLeadingZeros_0f7a4_76 ?_
            refine kk_isub e_J6_numberOfLeadingZeros_0f7a4_77 ?_
            exact kk_iret e_J6_numberOfLeadingZeros_0f7a4_78 ⟨rfl, h⟩
          · intro J_12 hJ_12 h
            refine kk_icmp_lt e_J6_numberOfLeadingZeros_0f7a4_63 (fun c_13 => ?_) (fun c_13 => ?_)
            · replace h := h.1 c_13
              exact kk_sub [0, 1] rfl (hJ_12 v0_7 v1_8 h)
            · replace h := h.2 c_13
              refine kk_iinc (lv' := [(1, .int (v1_8 + (-2 : Int32))), (0, .int v0_7)]) e_J6_numberOfLeadingZeros_0f7a4_66 (j := 1) rfl (ii_m2 v1_8) (by decide) rfl ?_
              refine kk_iload_n 1 rfl e_J6_numberOfLeadingZeros_0f7a4_69 ?_
              refine kk_iconst ic_2 e_J6_numberOfLeadingZeros_0f7a4_70 ?_
              refine kk_iushr e_J6_numberOfLeadingZeros_0f7a4_71 ?_
              refine kk_istore_n (lv' := [(0, .int (kk_ushr v0_7 (2 : Int32))), (1, .int (v1_8 + (-2 : Int32)))]) e_J6_numberOfLeadingZeros_0f7a4_72 rfl (by decide) rfl ?_
              exact kk_sub [0, 1] rfl (hJ_12 (kk_ushr v0_7 (2 : Int32)) (v1_8 + (-2 : Int32)) h)
        · intro J_9 hJ_9 h
          refine kk_icmp_lt e_J6_numberOfLeadingZeros_0f7a4_51 (fun c_14 => ?_) (fun c_14 => ?_)
          · replace h := h.1 c_14
            exact kk_sub [0, 1] rfl (hJ_9 v0_4 v1_5 h)
          · replace h := h.2 c_14
            refine kk_iinc (lv' := [(1, .int (v1_5 + (-4 : Int32))), (0, .int v0_4)]) e_J6_numberOfLeadingZeros_0f7a4_54 (j := 1) rfl (ii_m4 v1_5) (by decide) rfl ?_
            refine kk_iload_n 1 rfl e_J6_numberOfLeadingZeros_0f7a4_57 ?_
            refine kk_iconst ic_4 e_J6_numberOfLeadingZeros_0f7a4_58 ?_
            refine kk_iushr e_J6_numberOfLeadingZeros_0f7a4_59 ?_
            refine kk_istore_n (lv' := [(0, .int (kk_ushr v0_4 (4 : Int32))), (1, .int (v1_5 + (-4 : Int32)))]) e_J6_numberOfLeadingZeros_0f7a4_60 rfl (by decide) rfl ?_
            exact kk_sub [0, 1] rfl (hJ_9 (kk_ushr v0_4 (4 : Int32)) (v1_5 + (-4 : Int32)) h)
      · intro J_6 hJ_6 h
        refine kk_icmp_lt e_J6_numberOfLeadingZeros_0f7a4_37 (fun c_15 => ?_) (fun c_15 => ?_)
        · replace h := h.1 c_15
          exact kk_sub [0, 1] rfl (hJ_6 v0_1 v1_2 h)
        · replace h := h.2 c_15
          refine kk_iinc (lv' := [(1, .int (v1_2 + (-8 : Int32))), (0, .int v0_1)]) e_J6_numberOfLeadingZeros_0f7a4_40 (j := 1) rfl (ii_m8 v1_2) (by decide) rfl ?_
          refine kk_iload_n 1 rfl e_J6_numberOfLeadingZeros_0f7a4_43 ?_
          refine kk_bipush bp_8 e_J6_numberOfLeadingZeros_0f7a4_44 ?_
          refine kk_iushr e_J6_numberOfLeadingZeros_0f7a4_46 ?_
          refine kk_istore_n (lv' := [(0, .int (kk_ushr v0_1 (8 : Int32))), (1, .int (v1_2 + (-8 : Int32)))]) e_J6_numberOfLeadingZeros_0f7a4_47 rfl (by decide) rfl ?_
          exact kk_sub [0, 1] rfl (hJ_6 (kk_ushr v0_1 (8 : Int32)) (v1_2 + (-8 : Int32)) h)
    · intro J_3 hJ_3 h
      refine kk_icmp_lt e_J6_numberOfLeadingZeros_0f7a4_22 (fun c_16 => ?_) (fun c_16 => ?_)
      · replace h := h.1 c_16
        exact kk_sub [1, 0] rfl (hJ_3 v0 (31 : Int32) h)
      · replace h := h.2 c_16
        refine kk_iinc (lv' := [(1, .int ((31 : Int32) + (-16 : Int32))), (0, .int v0)]) e_J6_numberOfLeadingZeros_0f7a4_25 (j := 0) rfl (ii_m16 (31 : Int32)) (by decide) rfl ?_
        refine kk_iload_n 1 rfl e_J6_numberOfLeadingZeros_0f7a4_28 ?_
        refine kk_bipush bp_16 e_J6_numberOfLeadingZeros_0f7a4_29 ?_
        refine kk_iushr e_J6_numberOfLeadingZeros_0f7a4_31 ?_
        refine kk_istore_n (lv' := [(0, .int (kk_ushr v0 (16 : Int32))), (1, .int ((31 : Int32) + (-16 : Int32)))]) e_J6_numberOfLeadingZeros_0f7a4_32 rfl (by decide) rfl ?_
        exact kk_sub [0, 1] rfl (hJ_3 (kk_ushr v0 (16 : Int32)) ((31 : Int32) + (-16 : Int32)) h)
  · replace h := h.2 c_20
    refine kk_iload_n 0 rfl e_J6_numberOfLeadingZeros_0f7a4_4 ?_
    refine kk_jW1 (P := fun (t_17 : Int32) => KK Z sh_C RJ6 cJ6_numberOfLeadingZeros_0f7a4 2 (some .int) (kk_R 2) (kk_Qi Z sh_C (fun r σ' => σ' = σ ∧ Q r)) 14 [] [.int t_17] σ) h ?_ ?_
    · intro t_17 h
      exact kk_iret e_J6_numberOfLeadingZeros_0f7a4_14 ⟨rfl, h⟩
    · intro J_18 hJ_18 h
      refine kk_if_ne e_J6_numberOfLeadingZeros_0f7a4_5 (fun c_19 => ?_) (fun c_19 => ?_)
      · replace h := h.1 c_19
        refine kk_iconst ic_0 e_J6_numberOfLeadingZeros_0f7a4_13 ?_
        exact kk_sub [] rfl (hJ_18 (0 : Int32) h)
      · replace h := h.2 c_19
        refine kk_bipush bp_32 e_J6_numberOfLeadingZeros_0f7a4_8 ?_
        refine kk_goto e_J6_numberOfLeadingZeros_0f7a4_10 ?_
        exact kk_sub [] rfl (hJ_18 (32 : Int32) h)
theorem e_J6_numberOfTrailingZeros_0f7a4_0 : kk_d cJ6_numberOfTrailingZeros_0f7a4 0 (.iload_n 0) 1 1 := ⟨by decide +kernel, rfl⟩
theorem e_J6_numberOfTrailingZeros_0f7a4_1 : kk_d cJ6_numberOfTrailingZeros_0f7a4 1 (.iconst (-1)) 1 2 := ⟨by decide +kernel, rfl⟩
theorem e_J6_numberOfTrailingZeros_0f7a4_2 : kk_d cJ6_numberOfTrailingZeros_0f7a4 2 .ixor 1 3 := ⟨by decide +kernel, rfl⟩
theorem e_J6_numberOfTrailingZeros_0f7a4_3 : kk_d cJ6_numberOfTrailingZeros_0f7a4 3 (.iload_n 0) 1 4 := ⟨by decide +kernel, rfl⟩
theorem e_J6_numberOfTrailingZeros_0f7a4_4 : kk_d cJ6_numberOfTrailingZeros_0f7a4 4 (.iconst 1) 1 5 := ⟨by decide +kernel, rfl⟩
theorem e_J6_numberOfTrailingZeros_0f7a4_5 : kk_d cJ6_numberOfTrailingZeros_0f7a4 5 .isub 1 6 := ⟨by decide +kernel, rfl⟩
theorem e_J6_numberOfTrailingZeros_0f7a4_6 : kk_d cJ6_numberOfTrailingZeros_0f7a4 6 .iand 1 7 := ⟨by decide +kernel, rfl⟩
theorem e_J6_numberOfTrailingZeros_0f7a4_7 : kk_d cJ6_numberOfTrailingZeros_0f7a4 7 (.istore_n 0) 1 8 := ⟨by decide +kernel, rfl⟩
theorem e_J6_numberOfTrailingZeros_0f7a4_8 : kk_d cJ6_numberOfTrailingZeros_0f7a4 8 (.iload_n 0) 1 9 := ⟨by decide +kernel, rfl⟩
theorem e_J6_numberOfTrailingZeros_0f7a4_9 : kk_dj cJ6_numberOfTrailingZeros_0f7a4 9 (.ifCond .gt 8) 3 (8) 12 17 := ⟨by decide +kernel, rfl, by decide⟩
theorem e_J6_numberOfTrailingZeros_0f7a4_17 : kk_d cJ6_numberOfTrailingZeros_0f7a4 17 (.iconst 1) 1 18 := ⟨by decide +kernel, rfl⟩
theorem e_J6_numberOfTrailingZeros_0f7a4_18 : kk_d cJ6_numberOfTrailingZeros_0f7a4 18 (.istore_n 1) 1 19 := ⟨by decide +kernel, rfl⟩
theorem e_J6_numberOfTrailingZeros_0f7a4_19 : kk_d cJ6_numberOfTrailingZeros_0f7a4 19 (.iload_n 0) 1 20 := ⟨by decide +kernel, rfl⟩
theorem e_J6_numberOfTrailingZeros_0f7a4_20 : kk_d cJ6_numberOfTrailingZeros_0f7a4 20 (.ldc_w 264) 3 23 := ⟨by decide +kernel, rfl⟩
theorem e_J6_numberOfTrailingZeros_0f7a4_23 : kk_dj cJ6_numberOfTrailingZeros_0f7a4 23 (.if_icmp .le 11) 3 (11) 26 34 := ⟨by decide +kernel, rfl, by decide⟩
theorem e_J6_numberOfTrailingZeros_0f7a4_34 : kk_d cJ6_numberOfTrailingZeros_0f7a4 34 (.iload_n 0) 1 35 := ⟨by decide +kernel, rfl⟩
theorem e_J6_numberOfTrailingZeros_0f7a4_35 : kk_d cJ6_numberOfTrailingZeros_0f7a4 35 (.sipush 256) 3 38 := ⟨by decide +kernel, rfl⟩
theorem e_J6_numberOfTrailingZeros_0f7a4_38 : kk_dj cJ6_numberOfTrailingZeros_0f7a4 38 (.if_icmp .le 11) 3 (11) 41 49 := ⟨by decide +kernel, rfl, by decide⟩
theorem e_J6_numberOfTrailingZeros_0f7a4_49 : kk_d cJ6_numberOfTrailingZeros_0f7a4 49 (.iload_n 0) 1 50 := ⟨by decide +kernel, rfl⟩
theorem e_J6_numberOfTrailingZeros_0f7a4_50 : kk_d cJ6_numberOfTrailingZeros_0f7a4 50 (.bipush 16) 2 52 := ⟨by decide +kernel, rfl⟩
theorem e_J6_numberOfTrailingZeros_0f7a4_52 : kk_dj cJ6_numberOfTrailingZeros_0f7a4 52 (.if_icmp .le 10) 3 (10) 55 62 := ⟨by decide +kernel, rfl, by decide⟩
theorem e_J6_numberOfTrailingZeros_0f7a4_62 : kk_d cJ6_numberOfTrailingZeros_0f7a4 62 (.iload_n 0) 1 63 := ⟨by decide +kernel, rfl⟩
theorem e_J6_numberOfTrailingZeros_0f7a4_63 : kk_d cJ6_numberOfTrailingZeros_0f7a4 63 (.iconst 4) 1 64 := ⟨by decide +kernel, rfl⟩
theorem e_J6_numberOfTrailingZeros_0f7a4_64 : kk_dj cJ6_numberOfTrailingZeros_0f7a4 64 (.if_icmp .le 10) 3 (10) 67 74 := ⟨by decide +kernel, rfl, by decide⟩
theorem e_J6_numberOfTrailingZeros_0f7a4_74 : kk_d cJ6_numberOfTrailingZeros_0f7a4 74 (.iload_n 1) 1 75 := ⟨by decide +kernel, rfl⟩
theorem e_J6_numberOfTrailingZeros_0f7a4_75 : kk_d cJ6_numberOfTrailingZeros_0f7a4 75 (.iload_n 0) 1 76 := ⟨by decide +kernel, rfl⟩
theorem e_J6_numberOfTrailingZeros_0f7a4_76 : kk_d cJ6_numberOfTrailingZeros_0f7a4 76 (.iconst 1) 1 77 := ⟨by decide +kernel, rfl⟩
theorem e_J6_numberOfTrailingZeros_0f7a4_77 : kk_d cJ6_numberOfTrailingZeros_0f7a4 77 .iushr 1 78 := ⟨by decide +kernel, rfl⟩
theorem e_J6_numberOfTrailingZeros_0f7a4_78 : kk_d cJ6_numberOfTrailingZeros_0f7a4 78 .iadd 1 79 := ⟨by decide +kernel, rfl⟩
theorem e_J6_numberOfTrailingZeros_0f7a4_79 : kk_d cJ6_numberOfTrailingZeros_0f7a4 79 .ireturn 1 80 := ⟨by decide +kernel, rfl⟩
theorem e_J6_numberOfTrailingZeros_0f7a4_67 : kk_d cJ6_numberOfTrailingZeros_0f7a4 67 (.iinc 1 2) 3 70 := ⟨by decide +kernel, rfl⟩
theorem e_J6_numberOfTrailingZeros_0f7a4_70 : kk_d cJ6_numberOfTrailingZeros_0f7a4 70 (.iload_n 0) 1 71 := ⟨by decide +kernel, rfl⟩
theorem e_J6_numberOfTrailingZeros_0f7a4_71 : kk_d cJ6_numberOfTrailingZeros_0f7a4 71 (.iconst 2) 1 72 := ⟨by decide +kernel, rfl⟩
theorem e_J6_numberOfTrailingZeros_0f7a4_72 : kk_d cJ6_numberOfTrailingZeros_0f7a4 72 .iushr 1 73 := ⟨by decide +kernel, rfl⟩
theorem e_J6_numberOfTrailingZeros_0f7a4_73 : kk_d cJ6_numberOfTrailingZeros_0f7a4 73 (.istore_n 0) 1 74 := ⟨by decide +kernel, rfl⟩
theorem e_J6_numberOfTrailingZeros_0f7a4_55 : kk_d cJ6_numberOfTrailingZeros_0f7a4 55 (.iinc 1 4) 3 58 := ⟨by decide +kernel, rfl⟩
theorem e_J6_numberOfTrailingZeros_0f7a4_58 : kk_d cJ6_numberOfTrailingZeros_0f7a4 58 (.iload_n 0) 1 59 := ⟨by decide +kernel, rfl⟩
theorem e_J6_numberOfTrailingZeros_0f7a4_59 : kk_d cJ6_numberOfTrailingZeros_0f7a4 59 (.iconst 4) 1 60 := ⟨by decide +kernel, rfl⟩
theorem e_J6_numberOfTrailingZeros_0f7a4_60 : kk_d cJ6_numberOfTrailingZeros_0f7a4 60 .iushr 1 61 := ⟨by decide +kernel, rfl⟩
theorem e_J6_numberOfTrailingZeros_0f7a4_61 : kk_d cJ6_numberOfTrailingZeros_0f7a4 61 (.istore_n 0) 1 62 := ⟨by decide +kernel, rfl⟩
theorem e_J6_numberOfTrailingZeros_0f7a4_41 : kk_d cJ6_numberOfTrailingZeros_0f7a4 41 (.iinc 1 8) 3 44 := ⟨by decide +kernel, rfl⟩
theorem e_J6_numberOfTrailingZeros_0f7a4_44 : kk_d cJ6_numberOfTrailingZeros_0f7a4 44 (.iload_n 0) 1 45 := ⟨by decide +kernel, rfl⟩
theorem e_J6_numberOfTrailingZeros_0f7a4_45 : kk_d cJ6_numberOfTrailingZeros_0f7a4 45 (.bipush 8) 2 47 := ⟨by decide +kernel, rfl⟩
theorem e_J6_numberOfTrailingZeros_0f7a4_47 : kk_d cJ6_numberOfTrailingZeros_0f7a4 47 .iushr 1 48 := ⟨by decide +kernel, rfl⟩
theorem e_J6_numberOfTrailingZeros_0f7a4_48 : kk_d cJ6_numberOfTrailingZeros_0f7a4 48 (.istore_n 0) 1 49 := ⟨by decide +kernel, rfl⟩
theorem e_J6_numberOfTrailingZeros_0f7a4_26 : kk_d cJ6_numberOfTrailingZeros_0f7a4 26 (.iinc 1 16) 3 29 := ⟨by decide +kernel, rfl⟩
theorem e_J6_numberOfTrailingZeros_0f7a4_29 : kk_d cJ6_numberOfTrailingZeros_0f7a4 29 (.iload_n 0) 1 30 := ⟨by decide +kernel, rfl⟩
theorem e_J6_numberOfTrailingZeros_0f7a4_30 : kk_d cJ6_numberOfTrailingZeros_0f7a4 30 (.bipush 16) 2 32 := ⟨by decide +kernel, rfl⟩
theorem e_J6_numberOfTrailingZeros_0f7a4_32 : kk_d cJ6_numberOfTrailingZeros_0f7a4 32 .iushr 1 33 := ⟨by decide +kernel, rfl⟩
theorem e_J6_numberOfTrailingZeros_0f7a4_33 : kk_d cJ6_numberOfTrailingZeros_0f7a4 33 (.istore_n 0) 1 34 := ⟨by decide +kernel, rfl⟩
theorem e_J6_numberOfTrailingZeros_0f7a4_12 : kk_d cJ6_numberOfTrailingZeros_0f7a4 12 (.iload_n 0) 1 13 := ⟨by decide +kernel, rfl⟩
theorem e_J6_numberOfTrailingZeros_0f7a4_13 : kk_d cJ6_numberOfTrailingZeros_0f7a4 13 (.bipush 32) 2 15 := ⟨by decide +kernel, rfl⟩
theorem e_J6_numberOfTrailingZeros_0f7a4_15 : kk_d cJ6_numberOfTrailingZeros_0f7a4 15 .iand 1 16 := ⟨by decide +kernel, rfl⟩
theorem e_J6_numberOfTrailingZeros_0f7a4_16 : kk_d cJ6_numberOfTrailingZeros_0f7a4 16 .ireturn 1 17 := ⟨by decide +kernel, rfl⟩
set_option maxRecDepth 4000 in
theorem s_J6_numberOfTrailingZeros_0f7a4 (Z : kk_Z) (v0 : Int32) (σ : kk_St) (Q : Int32 → Prop) (h : f_J6_numberOfTrailingZeros_0f7a4 v0 Q) : kk_M Z sh_C yJ6_numberOfTrailingZeros_0f7a4 cJ6_numberOfTrailingZeros_0f7a4 2 (some .int) (kk_R 2) [.int v0] σ (kk_Qi Z sh_C (fun r σ' => σ' = σ ∧ Q r)) := by
  unfold f_J6_numberOfTrailingZeros_0f7a4 at h
  refine kk_met (own := RJ6) (by decide) rfl (Nat.le_of_ble_eq_true rfl) rfl ?_
  refine kk_iload_n 0 rfl e_J6_numberOfTrailingZeros_0f7a4_0 ?_
  refine kk_iconst ic_m1 e_J6_numberOfTrailingZeros_0f7a4_1 ?_
  refine kk_ixor e_J6_numberOfTrailingZeros_0f7a4_2 ?_
  refine kk_iload_n 0 rfl e_J6_numberOfTrailingZeros_0f7a4_3 ?_
  refine kk_iconst ic_1 e_J6_numberOfTrailingZeros_0f7a4_4 ?_
  refine kk_isub e_J6_numberOfTrailingZeros_0f7a4_5 ?_
  refine kk_iand e_J6_numberOfTrailingZeros_0f7a4_6 ?_
  refine kk_topi (fun v0_1 ev0_1 => ?_)
  replace h := h v0_1 ev0_1
  refine kk_istore_n (lv' := [(0, .int v0_1)]) e_J6_numberOfTrailingZeros_0f7a4_7 rfl (by decide) rfl ?_
  refine kk_iload_n 0 rfl e_J6_numberOfTrailingZeros_0f7a4_8 ?_
  refine kk_if_gt e_J6_numberOfTrailingZeros_0f7a4_9 (fun c_19 => ?_) (fun c_19 => ?_)
  · replace h := h.1 c_19
    refine kk_iconst ic_1 e_J6_numberOfTrailingZeros_0f7a4_17 ?_
    refine kk_istore_n (lv' := [(1, .int (1 : Int32)), (0, .int v0_1)]) e_J6_numberOfTrailingZeros_0f7a4_18 rfl (by decide) rfl ?_
    refine kk_iload_n 1 rfl e_J6_numberOfTrailingZeros_0f7a4_19 ?_
    refine kk_ldcw e_J6_numberOfTrailingZeros_0f7a4_20 cw_J6_264 ?_
    refine kk_jW2 (P := fun (v0_2 : Int32) (v1_3 : Int32) => KK Z sh_C RJ6 cJ6_numberOfTrailingZeros_0f7a4 2 (some .int) (kk_R 2) (kk_Qi Z sh_C (fun r σ' => σ' = σ ∧ Q r)) 34 [(0, .int v0_2), (1, .int v1_3)] [] σ) h ?_ ?_
    · intro v0_2 v1_3 h
      refine kk_iload_n 0 rfl e_J6_numberOfTrailingZeros_0f7a4_34 ?_
      refine kk_sipush sp_256 e_J6_numberOfTrailingZeros_0f7a4_35 ?_
      refine kk_jW2 (P := fun (v0_5 : Int32) (v1_6 : Int32) => KK Z sh_C RJ6 cJ6_numberOfTrailingZeros_0f7a4 2 (some .int) (kk_R 2) (kk_Qi Z sh_C (fun r σ' => σ' = σ ∧ Q r)) 49 [(0, .int v0_5), (1, .int v1_6)] [] σ) h ?_ ?_
      · intro v0_5 v1_6 h
        refine kk_iload_n 0 rfl e_J6_numberOfTrailingZeros_0f7a4_49 ?_
        refine kk_bipush bp_16 e_J6_numberOfTrailingZeros_0f7a4_50 ?_
        refine kk_jW2 (P := fun (v0_8 : Int32) (v1_9 : Int32) => KK Z sh_C RJ6 cJ6_numberOfTrailingZeros_0f7a4 2 (some .int) (kk_R 2) (kk_Qi Z sh_C (fun r σ' => σ' = σ ∧ Q r)) 62 [(0, .int v0_8), (1, .int v1_9)] [] σ) h ?_ ?_
        · intro v0_8 v1_9 h
          refine kk_iload_n 0 rfl e_J6_numberOfTrailingZeros_0f7a4_62 ?_
          refine kk_iconst ic_4 e_J6_numberOfTrailingZeros_0f7a4_63 ?_
          refine kk_jW2 (P := fun (v0_11 : Int32) (v1_12 : Int32) => KK Z sh_C RJ6 cJ6_numberOfTrailingZeros_0f7a4 2 (some .int) (kk_R 2) (kk_Qi Z sh_C (fun r σ' => σ' = σ ∧ Q r)) 74 [(0, .int v0_11), (1, .int v1_12)] [] σ) h ?_ ?_
          · intro v0_11 v1_12 h
            refine kk_iload_n 1 rfl e_J6_numberOfTrailingZeros_0f7a4_74 ?_
            refine kk_iload_n 0 rfl e_J6_numberOfTrailingZeros_0f7a4_75 ?_
            refine kk_iconst ic_1 e_J6_numberOfTrailingZeros_0f7a4_76 ?_
            refine kk_iushr e_J6_numberOfTrailingZeros_0f7a4_77 ?_
            refine kk_iadd e_J6_numberOfTrailingZeros_0f7a4_78 ?_
            exact kk_iret e_J6_numberOfTrailingZeros_0f7a4_79 ⟨rfl, h⟩
          · intro J_13 hJ_13 h
            refine kk_icmp_le e_J6_numberOfTrailingZeros_0f7a4_64 (fun c_14 => ?_) (fun c_14 => ?_)
            · replace h := h.1 c_14
              exact kk_sub [0, 1] rfl (hJ_13 v0_8 v1_9 h)
            · replace h := h.2 c_14
              refine kk_iinc (lv' := [(1, .int (v1_9 + (2 : Int32))), (0, .int v0_8)]) e_J6_numberOfTrailingZeros_0f7a4_67 (j := 1) rfl (ii_2 v1_9) (by decide) rfl ?_
              refine kk_iload_n 1 rfl e_J6_numberOfTrailingZeros_0f7a4_70 ?_
              refine kk_iconst ic_2 e_J6_numberOfTrailingZeros_0f7a4_71 ?_
              refine kk_iushr e_J6_numberOfTrailingZeros_0f7a4_72 ?_
              refine kk_istore_n (lv' := [(0, .int (kk_ushr v0_8 (2 : Int32))), (1, .int (v1_9 + (2 : Int32)))]) e_J6_numberOfTrailingZeros_0f7a4_73 rfl (by decide) rfl ?_
              exact kk_sub [0, 1] rfl (hJ_13 (kk_ushr v0_8 (2 : Int32)) (v1_9 + (2 : Int32)) h)
        · intro J_10 hJ_10 h
          refine kk_icmp_le e_J6_numberOfTrailingZeros_0f7a4_52 (fun c_15 => ?_) (fun c_15 => ?_)
          · replace h := h.1 c_15
            exact kk_sub [0, 1] rfl (hJ_10 v0_5 v1_6 h)
          · replace h := h.2 c_15
            refine kk_iinc (lv' := [(1, .int (v1_6 + (4 : Int32))), (0, .int v0_5)]) e_J6_numberOfTrailingZeros_0f7a4_55 (j := 1) rfl (ii_4 v1_6) (by decide) rfl ?_
            refine kk_iload_n 1 rfl e_J6_numberOfTrailingZeros_0f7a4_58 ?_
            refine kk_iconst ic_4 e_J6_numberOfTrailingZeros_0f7a4_59 ?_
            refine kk_iushr e_J6_numberOfTrailingZeros_0f7a4_60 ?_
            refine kk_istore_n (lv' := [(0, .int (kk_ushr v0_5 (4 : Int32))), (1, .int (v1_6 + (4 : Int32)))]) e_J6_numberOfTrailingZeros_0f7a4_61 rfl (by decide) rfl ?_
            exact kk_sub [0, 1] rfl (hJ_10 (kk_ushr v0_5 (4 : Int32)) (v1_6 + (4 : Int32)) h)
      · intro J_7 hJ_7 h
        refine kk_icmp_le e_J6_numberOfTrailingZeros_0f7a4_38 (fun c_16 => ?_) (fun c_16 => ?_)
        · replace h := h.1 c_16
          exact kk_sub [0, 1] rfl (hJ_7 v0_2 v1_3 h)
        · replace h := h.2 c_16
          refine kk_iinc (lv' := [(1, .int (v1_3 + (8 : Int32))), (0, .int v0_2)]) e_J6_numberOfTrailingZeros_0f7a4_41 (j := 1) rfl (ii_8 v1_3) (by decide) rfl ?_
          refine kk_iload_n 1 rfl e_J6_numberOfTrailingZeros_0f7a4_44 ?_
          refine kk_bipush bp_8 e_J6_numberOfTrailingZeros_0f7a4_45 ?_
          refine kk_iushr e_J6_numberOfTrailingZeros_0f7a4_47 ?_
          refine kk_istore_n (lv' := [(0, .int (kk_ushr v0_2 (8 : Int32))), (1, .int (v1_3 + (8 : Int32)))]) e_J6_numberOfTrailingZeros_0f7a4_48 rfl (by decide) rfl ?_
          exact kk_sub [0, 1] rfl (hJ_7 (kk_ushr v0_2 (8 : Int32)) (v1_3 + (8 : Int32)) h)
    · intro J_4 hJ_4 h
      refine kk_icmp_le e_J6_numberOfTrailingZeros_0f7a4_23 (fun c_18 => ?_) (fun c_18 => ?_)
      · replace h := h.1 c_18
        exact kk_sub [1, 0] rfl (hJ_4 v0_1 (1 : Int32) h)
      · replace h := h.2 c_18
        refine kk_iinc (lv' := [(1, .int ((1 : Int32) + (16 : Int32))), (0, .int v0_1)]) e_J6_numberOfTrailingZeros_0f7a4_26 (j := 0) rfl (ii_16 (1 : Int32)) (by decide) rfl ?_
        refine kk_iload_n 1 rfl e_J6_numberOfTrailingZeros_0f7a4_29 ?_
        refine kk_bipush bp_16 e_J6_numberOfTrailingZeros_0f7a4_30 ?_
        refine kk_iushr e_J6_numberOfTrailingZeros_0f7a4_32 ?_
        refine kk_topi (fun v0_17 ev0_17 => ?_)
        replace h := h v0_17 ev0_17
        refine kk_istore_n (lv' := [(0, .int v0_17), (1, .int ((1 : Int32) + (16 : Int32)))]) e_J6_numberOfTrailingZeros_0f7a4_33 rfl (by decide) rfl ?_
        exact kk_sub [0, 1] rfl (hJ_4 v0_17 ((1 : Int32) + (16 : Int32)) h)
  · replace h := h.2 c_19
    refine kk_iload_n 0 rfl e_J6_numberOfTrailingZeros_0f7a4_12 ?_
    refine kk_bipush bp_32 e_J6_numberOfTrailingZeros_0f7a4_13 ?_
    refine kk_iand e_J6_numberOfTrailingZeros_0f7a4_15 ?_
    exact kk_iret e_J6_numberOfTrailingZeros_0f7a4_16 ⟨rfl, h⟩
theorem e_J7_fill_53178_0 : kk_d cJ7_fill_53178 0 (.iconst 0) 1 1 := ⟨by decide +kernel, rfl⟩
theorem e_J7_fill_53178_1 : kk_d cJ7_fill_53178 1 (.istore_n 2) 1 2 := ⟨by decide +kernel, rfl⟩
theorem e_J7_fill_53178_2 : kk_d cJ7_fill_53178 2 (.aload_n 0) 1 3 := ⟨by decide +kernel, rfl⟩
theorem e_J7_fill_53178_3 : kk_d cJ7_fill_53178 3 .arraylength 1 4 := ⟨by decide +kernel, rfl⟩
theorem e_J7_fill_53178_4 : kk_d cJ7_fill_53178 4 (.istore_n 3) 1 5 := ⟨by decide +kernel, rfl⟩
theorem e_J7_fill_53178_5 : kk_d cJ7_fill_53178 5 (.iload_n 2) 1 6 := ⟨by decide +kernel, rfl⟩
theorem e_J7_fill_53178_6 : kk_d cJ7_fill_53178 6 (.iload_n 3) 1 7 := ⟨by decide +kernel, rfl⟩
theorem e_J7_fill_53178_7 : kk_dj cJ7_fill_53178 7 (.if_icmp .ge 13) 3 (13) 10 20 := ⟨by decide +kernel, rfl, by decide⟩
theorem e_J7_fill_53178_20 : kk_d cJ7_fill_53178 20 .return_ 1 21 := ⟨by decide +kernel, rfl⟩
theorem e_J7_fill_53178_10 : kk_d cJ7_fill_53178 10 (.aload_n 0) 1 11 := ⟨by decide +kernel, rfl⟩
theorem e_J7_fill_53178_11 : kk_d cJ7_fill_53178 11 (.iload_n 2) 1 12 := ⟨by decide +kernel, rfl⟩
theorem e_J7_fill_53178_12 : kk_d cJ7_fill_53178 12 (.iload_n 1) 1 13 := ⟨by decide +kernel, rfl⟩
theorem e_J7_fill_53178_13 : kk_d cJ7_fill_53178 13 .iastore 1 14 := ⟨by decide +kernel, rfl⟩
theorem e_J7_fill_53178_14 : kk_d cJ7_fill_53178 14 (.iinc 2 1) 3 17 := ⟨by decide +kernel, rfl⟩
theorem e_J7_fill_53178_17 : kk_dj cJ7_fill_53178 17 (.goto (-12)) 3 (-12) 20 5 := ⟨by decide +kernel, rfl, by decide⟩
set_option maxRecDepth 4000 in
theorem s_J7_fill_53178 (Z : kk_Z) (a0 : Nat) (n0 : Nat) (v1 : Int32) (σ : kk_St) (Q : kk_St → Prop) (ha0 : sh_C[a0]? = some (.inl (false, n0))) (h : f_J7_fill_53178 a0 n0 v1 σ Q) : kk_M Z sh_C yJ7_fill_53178 cJ7_fill_53178 4 none (kk_R 2) [.ref (Z.2.1 a0), .int v1] σ (kk_Qv Z sh_C Q) := by
  unfold f_J7_fill_53178 at h
  refine kk_met (own := RJ7) (by decide) rfl (Nat.le_of_ble_eq_true rfl) rfl ?_
  refine kk_iconst ic_0 e_J7_fill_53178_0 ?_
  refine kk_istore_n (lv' := [(2, .int (0 : Int32)), (0, .ref (Z.2.1 a0)), (1, .int v1)]) e_J7_fill_53178_1 rfl (by decide) rfl ?_
  refine kk_aload_n 1 rfl e_J7_fill_53178_2 ?_
  refine kk_alen e_J7_fill_53178_3 ha0 rfl ?_
  refine kk_istore_n (lv' := [(3, .int (Int32.ofNat n0)), (2, .int (0 : Int32)), (0, .ref (Z.2.1 a0)), (1, .int v1)]) e_J7_fill_53178_4 rfl (by decide) rfl ?_
  refine kk_sub [2, 3, 1, 0] rfl ?_
  refine kk_lpW2 (P := fun (v2_1 : Int32) (σ_2 : kk_St) => KK Z sh_C RJ7 cJ7_fill_53178 4 none (kk_R 2) (kk_Qv Z sh_C Q) 5 [(0, .ref (Z.2.1 a0)), (1, .int v1), (2, .int v2_1), (3, .int (Int32.ofNat n0))] [] σ_2) ?_ h
  intro rec_3 hrec_3 v2_1 σ_2 h
  refine kk_iload_n 2 rfl e_J7_fill_53178_5 ?_
  refine kk_iload_n 3 rfl e_J7_fill_53178_6 ?_
  refine kk_icmp_ge e_J7_fill_53178_7 (fun c_5 => ?_) (fun c_5 => ?_)
  · replace h := h.1 c_5
    exact kk_vret e_J7_fill_53178_20 h
  · replace h := h.2 c_5
    refine kk_aload_n 0 rfl e_J7_fill_53178_10 ?_
    refine kk_iload_n 2 rfl e_J7_fill_53178_11 ?_
    refine kk_iload_n 1 rfl e_J7_fill_53178_12 ?_
    refine kk_iast e_J7_fill_53178_13 ha0 h.1 ?_
    replace h := h.2
    refine kk_tops (fun σ_4 eσ_4 => ?_)
    replace h := h σ_4 eσ_4
    refine kk_iinc (lv' := [(2, .int (v2_1 + (1 : Int32))), (0, .ref (Z.2.1 a0)), (1, .int v1), (3, .int (Int32.ofNat n0))]) e_J7_fill_53178_14 (j := 2) rfl (ii_1 v2_1) (by decide) rfl ?_
    refine kk_goto e_J7_fill_53178_17 ?_
    exact kk_sub [1, 2, 0, 3] rfl (hrec_3 (v2_1 + (1 : Int32)) σ_4 h)
theorem e_X0_gather_0 : kk_d cX0_gather 0 (.aload_n 0) 1 1 := ⟨by decide +kernel, rfl⟩
theorem e_X0_gather_1 : kk_d cX0_gather 1 (.getfield 9) 3 4 := ⟨by decide +kernel, rfl⟩
theorem e_X0_gather_4 : kk_d cX0_gather 4 (.iload 4) 2 6 := ⟨by decide +kernel, rfl⟩
theorem e_X0_gather_6 : kk_d cX0_gather 6 .iaload 1 7 := ⟨by decide +kernel, rfl⟩
theorem e_X0_gather_7 : kk_dj cX0_gather 7 (.ifCond .eq 14) 3 (14) 10 21 := ⟨by decide +kernel, rfl, by decide⟩
theorem e_X0_gather_29 : kk_d cX0_gather 29 (.aload_n 0) 1 30 := ⟨by decide +kernel, rfl⟩
theorem e_X0_gather_30 : kk_d cX0_gather 30 (.getfield 9) 3 33 := ⟨by decide +kernel, rfl⟩
theorem e_X0_gather_33 : kk_d cX0_gather 33 (.iload 4) 2 35 := ⟨by decide +kernel, rfl⟩
theorem e_X0_gather_35 : kk_d cX0_gather 35 .dup2 1 36 := ⟨by decide +kernel, rfl⟩
theorem e_X0_gather_36 : kk_d cX0_gather 36 .iaload 1 37 := ⟨by decide +kernel, rfl⟩
theorem e_X0_gather_37 : kk_d cX0_gather 37 (.iconst 1) 1 38 := ⟨by decide +kernel, rfl⟩
theorem e_X0_gather_38 : kk_d cX0_gather 38 .iadd 1 39 := ⟨by decide +kernel, rfl⟩
theorem e_X0_gather_39 : kk_d cX0_gather 39 .iastore 1 40 := ⟨by decide +kernel, rfl⟩
theorem e_X0_gather_40 : kk_d cX0_gather 40 (.iload 4) 2 42 := ⟨by decide +kernel, rfl⟩
theorem e_X0_gather_42 : kk_d cX0_gather 42 (.iconst 4) 1 43 := ⟨by decide +kernel, rfl⟩
theorem e_X0_gather_43 : kk_dj cX0_gather 43 (.if_icmp .lt 4) 3 (4) 46 47 := ⟨by decide +kernel, rfl, by decide⟩
theorem e_X0_gather_47 : kk_d cX0_gather 47 (.iload_n 1) 1 48 := ⟨by decide +kernel, rfl⟩
theorem e_X0_gather_48 : kk_d cX0_gather 48 (.istore 5) 2 50 := ⟨by decide +kernel, rfl⟩
theorem e_X0_gather_50 : kk_d cX0_gather 50 (.iload 5) 2 52 := ⟨by decide +kernel, rfl⟩
theorem e_X0_gather_52 : kk_d cX0_gather 52 (.aload_n 0) 1 53 := ⟨by decide +kernel, rfl⟩
theorem e_X0_gather_53 : kk_d cX0_gather 53 (.getfield 18) 3 56 := ⟨by decide +kernel, rfl⟩
theorem e_X0_gather_56 : kk_d cX0_gather 56 (.getfield 32) 3 59 := ⟨by decide +kernel, rfl⟩
theorem e_X0_gather_59 : kk_dj cX0_gather 59 (.if_icmp .ge 48) 3 (48) 62 107 := ⟨by decide +kernel, rfl, by decide⟩
theorem e_X0_gather_107 : kk_d cX0_gather 107 .return_ 1 108 := ⟨by decide +kernel, rfl⟩
theorem e_X0_gather_62 : kk_d cX0_gather 62 (.iload_n 2) 1 63 := ⟨by decide +kernel, rfl⟩
theorem e_X0_gather_63 : kk_d cX0_gather 63 (.iload 5) 2 65 := ⟨by decide +kernel, rfl⟩
theorem e_X0_gather_65 : kk_d cX0_gather 65 .ishr 1 66 := ⟨by decide +kernel, rfl⟩
theorem e_X0_gather_66 : kk_d cX0_gather 66 (.iconst 1) 1 67 := ⟨by decide +kernel, rfl⟩
theorem e_X0_gather_67 : kk_d cX0_gather 67 .iand 1 68 := ⟨by decide +kernel, rfl⟩
theorem e_X0_gather_68 : kk_dj cX0_gather 68 (.ifCond .ne 33) 3 (33) 71 101 := ⟨by decide +kernel, rfl, by decide⟩
theorem e_X0_gather_101 : kk_d cX0_gather 101 (.iinc 5 1) 3 104 := ⟨by decide +kernel, rfl⟩
theorem e_X0_gather_104 : kk_dj cX0_gather 104 (.goto (-54)) 3 (-54) 107 50 := ⟨by decide +kernel, rfl, by decide⟩
theorem e_X0_gather_71 : kk_d cX0_gather 71 (.aload_n 0) 1 72 := ⟨by decide +kernel, rfl⟩
theorem e_X0_gather_72 : kk_d cX0_gather 72 (.iload 5) 2 74 := ⟨by decide +kernel, rfl⟩
theorem e_X0_gather_74 : kk_d cX0_gather 74 (.iconst 1) 1 75 := ⟨by decide +kernel, rfl⟩
theorem e_X0_gather_75 : kk_d cX0_gather 75 .iadd 1 76 := ⟨by decide +kernel, rfl⟩
theorem e_X0_gather_76 : kk_d cX0_gather 76 (.iload_n 2) 1 77 := ⟨by decide +kernel, rfl⟩
theorem e_X0_gather_77 : kk_d cX0_gather 77 (.aload_n 0) 1 78 := ⟨by decide +kernel, rfl⟩
theorem e_X0_gather_78 : kk_d cX0_gather 78 (.getfield 18) 3 81 := ⟨by decide +kernel, rfl⟩
theorem e_X0_gather_81 : kk_d cX0_gather 81 (.getfield 38) 3 84 := ⟨by decide +kernel, rfl⟩
theorem e_X0_gather_84 : kk_d cX0_gather 84 (.iload 5) 2 86 := ⟨by decide +kernel, rfl⟩
theorem e_X0_gather_86 : kk_d cX0_gather 86 .iaload 1 87 := ⟨by decide +kernel, rfl⟩
theorem e_X0_gather_87 : kk_d cX0_gather 87 .ior 1 88 := ⟨by decide +kernel, rfl⟩
theorem e_X0_gather_88 : kk_d cX0_gather 88 (.iload_n 3) 1 89 := ⟨by decide +kernel, rfl⟩
theorem e_X0_gather_89 : kk_d cX0_gather 89 (.iconst 1) 1 90 := ⟨by decide +kernel, rfl⟩
theorem e_X0_gather_90 : kk_d cX0_gather 90 (.iload 5) 2 92 := ⟨by decide +kernel, rfl⟩
theorem e_X0_gather_92 : kk_d cX0_gather 92 .ishl 1 93 := ⟨by decide +kernel, rfl⟩
theorem e_X0_gather_93 : kk_d cX0_gather 93 .ior 1 94 := ⟨by decide +kernel, rfl⟩
theorem e_X0_gather_94 : kk_d cX0_gather 94 (.iload 4) 2 96 := ⟨by decide +kernel, rfl⟩
theorem e_X0_gather_96 : kk_d cX0_gather 96 (.iconst 1) 1 97 := ⟨by decide +kernel, rfl⟩
theorem e_X0_gather_97 : kk_d cX0_gather 97 .iadd 1 98 := ⟨by decide +kernel, rfl⟩
theorem e_X0_gather_98 : kk_d cX0_gather 98 (.invokevirtual 28) 3 101 := ⟨by decide +kernel, rfl⟩
theorem e_X0_gather_46 : kk_d cX0_gather 46 .return_ 1 47 := ⟨by decide +kernel, rfl⟩
theorem e_X0_gather_21 : kk_d cX0_gather 21 (.aload_n 0) 1 22 := ⟨by decide +kernel, rfl⟩
theorem e_X0_gather_22 : kk_d cX0_gather 22 (.getfield 15) 3 25 := ⟨by decide +kernel, rfl⟩
theorem e_X0_gather_25 : kk_d cX0_gather 25 (.iload 4) 2 27 := ⟨by decide +kernel, rfl⟩
theorem e_X0_gather_27 : kk_d cX0_gather 27 (.iload_n 3) 1 28 := ⟨by decide +kernel, rfl⟩
theorem e_X0_gather_28 : kk_d cX0_gather 28 .iastore 1 29 := ⟨by decide +kernel, rfl⟩
theorem e_X0_gather_10 : kk_d cX0_gather 10 (.iload_n 3) 1 11 := ⟨by decide +kernel, rfl⟩
theorem e_X0_gather_11 : kk_d cX0_gather 11 (.aload_n 0) 1 12 := ⟨by decide +kernel, rfl⟩
theorem e_X0_gather_12 : kk_d cX0_gather 12 (.getfield 15) 3 15 := ⟨by decide +kernel, rfl⟩
theorem e_X0_gather_15 : kk_d cX0_gather 15 (.iload 4) 2 17 := ⟨by decide +kernel, rfl⟩
theorem e_X0_gather_17 : kk_d cX0_gather 17 .iaload 1 18 := ⟨by decide +kernel, rfl⟩
theorem e_X0_gather_18 : kk_dj cX0_gather 18 (.if_icmp .ge 11) 3 (11) 21 29 := ⟨by decide +kernel, rfl, by decide⟩
set_option maxRecDepth 4000 in
theorem s_X0_gather (Z : kk_Z) : ∀ (n : Nat) (v1 : Int32) (v2 : Int32) (v3 : Int32) (v4 : Int32) (σ : kk_St) (Q : kk_St → Prop), f_X0_gather n v1 v2 v3 v4 σ Q → kk_M Z sh_C yX0_gather cX0_gather 6 none (kk_R (1 * n + 2)) [.ref (Z.2.1 8), .int v1, .int v2, .int v3, .int v4] σ (kk_Qv Z sh_C Q) := by
  intro n
  induction n with
  | zero => intro _ _ _ _ _ _ h; exact h.elim
  | succ n ih =>
    intro v1 v2 v3 v4 σ Q h
    unfold f_X0_gather at h
    refine kk_met (own := RX0) (by decide) rfl (Nat.le_of_ble_eq_true rfl) rfl ?_
    refine kk_aload_n 0 rfl e_X0_gather_0 ?_
    refine kk_getr e_X0_gather_1 fl_X0_9 rfl rfl ?_
    refine kk_iload 4 rfl e_X0_gather_4 ?_
    refine kk_iald e_X0_gather_6 rfl h.1 ?_
    replace h := h.2
    refine kk_jW1 (P := fun (σ_1 : kk_St) => KK Z sh_C RX0 cX0_gather 6 none (kk_R (1 * (n + 1) + 2)) (kk_Qv Z sh_C Q) 29 [(0, .ref (Z.2.1 8)), (1, .int v1), (2, .int v2), (3, .int v3), (4, .int v4)] [] σ_1) h ?_ ?_
    · intro σ_1 h
      refine kk_aload_n 0 rfl e_X0_gather_29 ?_
      refine kk_getr e_X0_gather_30 fl_X0_9 rfl rfl ?_
      refine kk_iload 4 rfl e_X0_gather_33 ?_
      refine kk_dup2 rfl rfl e_X0_gather_35 ?_
      refine kk_iald e_X0_gather_36 rfl h.1 ?_
      replace h := h.2
      refine kk_iconst ic_1 e_X0_gather_37 ?_
      refine kk_iadd e_X0_gather_38 ?_
      refine kk_iast e_X0_gather_39 rfl h.1 ?_
      replace h := h.2
      refine kk_tops (fun σ_3 eσ_3 => ?_)
      replace h := h σ_3 eσ_3
      refine kk_iload 4 rfl e_X0_gather_40 ?_
      refine kk_iconst ic_4 e_X0_gather_42 ?_
      refine kk_icmp_lt e_X0_gather_43 (fun c_12 => ?_) (fun c_12 => ?_)
      · replace h := h.1 c_12
        refine kk_iload_n 1 rfl e_X0_gather_47 ?_
        refine kk_istore (lv' := [(5, .int v1), (0, .ref (Z.2.1 8)), (1, .int v1), (2, .int v2), (3, .int v3), (4, .int v4)]) e_X0_gather_48 (by decide) rfl ?_
        refine kk_sub [1, 3, 4, 5, 0] rfl ?_
        refine kk_lpW2 (P := fun (v5_4 : Int32) (σ_5 : kk_St) => KK Z sh_C RX0 cX0_gather 6 none (kk_R (1 * (n + 1) + 2)) (kk_Qv Z sh_C Q) 50 [(0, .ref (Z.2.1 8)), (2, .int v2), (3, .int v3), (4, .int v4), (5, .int v5_4)] [] σ_5) ?_ h
        intro rec_6 hrec_6 v5_4 σ_5 h
        refine kk_iload 4 rfl e_X0_gather_50 ?_
        refine kk_aload_n 0 rfl e_X0_gather_52 ?_
        refine kk_getr e_X0_gather_53 fl_X0_18 rfl rfl ?_
        refine kk_geti e_X0_gather_56 fl_X0_32 rfl rfl ?_
        refine kk_icmp_ge e_X0_gather_59 (fun c_11 => ?_) (fun c_11 => ?_)
        · replace h := h.1 c_11
          exact kk_vret e_X0_gather_107 h
        · replace h := h.2 c_11
          refine kk_iload_n 1 rfl e_X0_gather_62 ?_
          refine kk_iload 4 rfl e_X0_gather_63 ?_
          refine kk_ishr e_X0_gather_65 ?_
          refine kk_iconst ic_1 e_X0_gather_66 ?_
          refine kk_iand e_X0_gather_67 ?_
          refine kk_jW1 (P := fun (σ_7 : kk_St) => KK Z sh_C RX0 cX0_gather 6 none (kk_R (1 * (n + 1) + 2)) (kk_Qv Z sh_C Q) 101 [(0, .ref (Z.2.1 8)), (2, .int v2), (3, .int v3), (4, .int v4), (5, .int v5_4)] [] σ_7) h ?_ ?_
          · intro σ_7 h
            refine kk_iinc (lv' := [(5, .int (v5_4 + (1 : Int32))), (0, .ref (Z.2.1 8)), (2, .int v2), (3, .int v3), (4, .int v4)]) e_X0_gather_101 (j := 4) rfl (ii_1 v5_4) (by decide) rfl ?_
            refine kk_goto e_X0_gather_104 ?_
            exact kk_sub [1, 2, 3, 4, 0] rfl (hrec_6 (v5_4 + (1 : Int32)) σ_7 h)
          · intro J_8 hJ_8 h
            refine kk_if_ne e_X0_gather_68 (fun c_10 => ?_) (fun c_10 => ?_)
            · replace h := h.1 c_10
              exact kk_sub [0, 1, 2, 3, 4] rfl (hJ_8 σ_5 h)
            · replace h := h.2 c_10
              refine kk_aload_n 0 rfl e_X0_gather_71 ?_
              refine kk_iload 4 rfl e_X0_gather_72 ?_
              refine kk_iconst ic_1 e_X0_gather_74 ?_
              refine kk_iadd e_X0_gather_75 ?_
              refine kk_iload_n 1 rfl e_X0_gather_76 ?_
              refine kk_aload_n 0 rfl e_X0_gather_77 ?_
              refine kk_getr e_X0_gather_78 fl_X0_18 rfl rfl ?_
              refine kk_getr e_X0_gather_81 fl_X0_38 rfl rfl ?_
              refine kk_iload 4 rfl e_X0_gather_84 ?_
              refine kk_iald e_X0_gather_86 rfl h.1 ?_
              replace h := h.2
              refine kk_ior e_X0_gather_87 ?_
              refine kk_iload_n 2 rfl e_X0_gather_88 ?_
              refine kk_iconst ic_1 e_X0_gather_89 ?_
              refine kk_iload 4 rfl e_X0_gather_90 ?_
              refine kk_ishl e_X0_gather_92 ?_
              refine kk_ior e_X0_gather_93 ?_
              refine kk_iload 3 rfl e_X0_gather_94 ?_
              refine kk_iconst ic_1 e_X0_gather_96 ?_
              refine kk_iadd e_X0_gather_97 ?_
              refine kk_callVv (As := [.int (v5_4 + (1 : Int32)), .int (v2 ||| (kk_rd σ_5 13 v5_4)), .int (v3 ||| ((1 : Int32) <<< (v5_4 &&& 31))), .int (v4 + (1 : Int32))]) (rest := []) e_X0_gather_98 ml_X0_28 ⟨_, _, _, _, rfl, rfl⟩ rfl (kk_fitR (by omega) (by decide)) (Nat.le_of_ble_eq_true rfl) rfl (ih (v5_4 + (1 : Int32)) (v2 ||| (kk_rd σ_5 13 v5_4)) (v3 ||| ((1 : Int32) <<< (v5_4 &&& 31))) (v4 + (1 : Int32)) σ_5 _ h) (fun σ_9 h => ?_)
              exact kk_sub [0, 1, 2, 3, 4] rfl (hJ_8 σ_9 h)
      · replace h := h.2 c_12
        exact kk_vret e_X0_gather_46 h
    · intro J_2 hJ_2 h
      refine kk_jW0 (P := KK Z sh_C RX0 cX0_gather 6 none (kk_R (1 * (n + 1) + 2)) (kk_Qv Z sh_C Q) 21 [(0, .ref (Z.2.1 8)), (1, .int v1), (2, .int v2), (3, .int v3), (4, .int v4)] [] σ) h ?_ ?_
      · intro h
        refine kk_aload_n 0 rfl e_X0_gather_21 ?_
        refine kk_getr e_X0_gather_22 fl_X0_15 rfl rfl ?_
        refine kk_iload 4 rfl e_X0_gather_25 ?_
        refine kk_iload_n 3 rfl e_X0_gather_27 ?_
        refine kk_iast e_X0_gather_28 rfl h.1 ?_
        replace h := h.2
        refine kk_tops (fun σ_14 eσ_14 => ?_)
        replace h := h σ_14 eσ_14
        exact kk_sub [0, 1, 2, 3, 4] rfl (hJ_2 σ_14 h)
      · intro J_13 hJ_13 h
        refine kk_if_eq e_X0_gather_7 (fun c_16 => ?_) (fun c_16 => ?_)
        · replace h := h.1 c_16
          exact kk_sub [0, 1, 2, 3, 4] rfl (hJ_13 h)
        · replace h := h.2 c_16
          refine kk_iload_n 3 rfl e_X0_gather_10 ?_
          refine kk_aload_n 0 rfl e_X0_gather_11 ?_
          refine kk_getr e_X0_gather_12 fl_X0_15 rfl rfl ?_
          refine kk_iload 4 rfl e_X0_gather_15 ?_
          refine kk_iald e_X0_gather_17 rfl h.1 ?_
          replace h := h.2
          refine kk_icmp_ge e_X0_gather_18 (fun c_15 => ?_) (fun c_15 => ?_)
          · replace h := h.1 c_15
            exact kk_sub [0, 1, 2, 3, 4] rfl (hJ_2 σ h)
          · replace h := h.2 c_15
            exact kk_sub [0, 1, 2, 3, 4] rfl (hJ_13 h)
theorem e_X0_gatherAll_0 : kk_d cX0_gatherAll 0 (.aload_n 0) 1 1 := ⟨by decide +kernel, rfl⟩
theorem e_X0_gatherAll_1 : kk_d cX0_gatherAll 1 (.getfield 9) 3 4 := ⟨by decide +kernel, rfl⟩
theorem e_X0_gatherAll_4 : kk_d cX0_gatherAll 4 (.iconst 0) 1 5 := ⟨by decide +kernel, rfl⟩
theorem e_X0_gatherAll_5 : kk_d cX0_gatherAll 5 (.invokestatic 22) 3 8 := ⟨by decide +kernel, rfl⟩
theorem e_X0_gatherAll_8 : kk_d cX0_gatherAll 8 (.aload_n 0) 1 9 := ⟨by decide +kernel, rfl⟩
theorem e_X0_gatherAll_9 : kk_d cX0_gatherAll 9 (.iconst 0) 1 10 := ⟨by decide +kernel, rfl⟩
theorem e_X0_gatherAll_10 : kk_d cX0_gatherAll 10 (.iconst 0) 1 11 := ⟨by decide +kernel, rfl⟩
theorem e_X0_gatherAll_11 : kk_d cX0_gatherAll 11 (.iconst 0) 1 12 := ⟨by decide +kernel, rfl⟩
theorem e_X0_gatherAll_12 : kk_d cX0_gatherAll 12 (.iconst 0) 1 13 := ⟨by decide +kernel, rfl⟩
theorem e_X0_gatherAll_13 : kk_d cX0_gatherAll 13 (.invokevirtual 28) 3 16 := ⟨by decide +kernel, rfl⟩
theorem e_X0_gatherAll_16 : kk_d cX0_gatherAll 16 .return_ 1 17 := ⟨by decide +kernel, rfl⟩
set_option maxRecDepth 4000 in
theorem s_X0_gatherAll (Z : kk_Z) (σ : kk_St) (Q : kk_St → Prop) (h : f_X0_gatherAll σ Q) : kk_M Z sh_C yX0_gatherAll cX0_gatherAll 1 none (kk_R 33) [.ref (Z.2.1 8)] σ (kk_Qv Z sh_C Q) := by
  unfold f_X0_gatherAll at h
  refine kk_met (own := RX0) (by decide) rfl (Nat.le_of_ble_eq_true rfl) rfl ?_
  refine kk_aload_n 0 rfl e_X0_gatherAll_0 ?_
  refine kk_getr e_X0_gatherAll_1 fl_X0_9 rfl rfl ?_
  refine kk_iconst ic_0 e_X0_gatherAll_4 ?_
  refine kk_callSv (As := [.ref (Z.2.1 23), .int (0 : Int32)]) (rest := []) e_X0_gatherAll_5 ml_X0_22 rfl (kk_fitR (by decide) (by decide)) (Nat.le_of_ble_eq_true rfl) rfl (s_J7_fill_53178 Z 23 5 (0 : Int32) σ _ rfl h) (fun σ_1 h => ?_)
  refine kk_aload_n 0 rfl e_X0_gatherAll_8 ?_
  refine kk_iconst ic_0 e_X0_gatherAll_9 ?_
  refine kk_iconst ic_0 e_X0_gatherAll_10 ?_
  refine kk_iconst ic_0 e_X0_gatherAll_11 ?_
  refine kk_iconst ic_0 e_X0_gatherAll_12 ?_
  refine kk_callVv (As := [.int (0 : Int32), .int (0 : Int32), .int (0 : Int32), .int (0 : Int32)]) (rest := []) e_X0_gatherAll_13 ml_X0_28 ⟨_, _, _, _, rfl, rfl⟩ rfl (kk_fitR (by decide) (by decide)) (Nat.le_of_ble_eq_true rfl) rfl (s_X0_gather Z 30 (0 : Int32) (0 : Int32) (0 : Int32) (0 : Int32) σ_1 _ h) (fun σ_2 h => ?_)
  exact kk_vret e_X0_gatherAll_16 h
theorem e_X0_most_0 : kk_d cX0_most 0 (.iconst 0) 1 1 := ⟨by decide +kernel, rfl⟩
theorem e_X0_most_1 : kk_d cX0_most 1 (.istore_n 1) 1 2 := ⟨by decide +kernel, rfl⟩
theorem e_X0_most_2 : kk_d cX0_most 2 (.iconst 0) 1 3 := ⟨by decide +kernel, rfl⟩
theorem e_X0_most_3 : kk_d cX0_most 3 (.istore_n 2) 1 4 := ⟨by decide +kernel, rfl⟩
theorem e_X0_most_4 : kk_d cX0_most 4 (.iload_n 2) 1 5 := ⟨by decide +kernel, rfl⟩
theorem e_X0_most_5 : kk_d cX0_most 5 (.iconst 4) 1 6 := ⟨by decide +kernel, rfl⟩
theorem e_X0_most_6 : kk_dj cX0_most 6 (.if_icmp .gt 20) 3 (20) 9 26 := ⟨by decide +kernel, rfl, by decide⟩
theorem e_X0_most_26 : kk_d cX0_most 26 (.iload_n 1) 1 27 := ⟨by decide +kernel, rfl⟩
theorem e_X0_most_27 : kk_d cX0_most 27 .ireturn 1 28 := ⟨by decide +kernel, rfl⟩
theorem e_X0_most_9 : kk_d cX0_most 9 (.aload_n 0) 1 10 := ⟨by decide +kernel, rfl⟩
theorem e_X0_most_10 : kk_d cX0_most 10 (.getfield 9) 3 13 := ⟨by decide +kernel, rfl⟩
theorem e_X0_most_13 : kk_d cX0_most 13 (.iload_n 2) 1 14 := ⟨by decide +kernel, rfl⟩
theorem e_X0_most_14 : kk_d cX0_most 14 .iaload 1 15 := ⟨by decide +kernel, rfl⟩
theorem e_X0_most_15 : kk_dj cX0_most 15 (.ifCond .le 5) 3 (5) 18 20 := ⟨by decide +kernel, rfl, by decide⟩
theorem e_X0_most_20 : kk_d cX0_most 20 (.iinc 2 1) 3 23 := ⟨by decide +kernel, rfl⟩
theorem e_X0_most_23 : kk_dj cX0_most 23 (.goto (-19)) 3 (-19) 26 4 := ⟨by decide +kernel, rfl, by decide⟩
theorem e_X0_most_18 : kk_d cX0_most 18 (.iload_n 2) 1 19 := ⟨by decide +kernel, rfl⟩
theorem e_X0_most_19 : kk_d cX0_most 19 (.istore_n 1) 1 20 := ⟨by decide +kernel, rfl⟩
set_option maxRecDepth 4000 in
theorem s_X0_most (Z : kk_Z) (σ : kk_St) (Q : Int32 → Prop) (h : f_X0_most σ Q) : kk_M Z sh_C yX0_most cX0_most 3 (some .int) (kk_R 2) [.ref (Z.2.1 8)] σ (kk_Qi Z sh_C (fun r σ' => σ' = σ ∧ Q r)) := by
  unfold f_X0_most at h
  refine kk_met (own := RX0) (by decide) rfl (Nat.le_of_ble_eq_true rfl) rfl ?_
  refine kk_iconst ic_0 e_X0_most_0 ?_
  refine kk_istore_n (lv' := [(1, .int (0 : Int32)), (0, .ref (Z.2.1 8))]) e_X0_most_1 rfl (by decide) rfl ?_
  refine kk_iconst ic_0 e_X0_most_2 ?_
  refine kk_istore_n (lv' := [(2, .int (0 : Int32)), (1, .int (0 : Int32)), (0, .ref (Z.2.1 8))]) e_X0_most_3 rfl (by decide) rfl ?_
  refine kk_sub [2, 1, 0] rfl ?_
  refine kk_lpW2 (P := fun (v1_1 : Int32) (v2_2 : Int32) => KK Z sh_C RX0 cX0_most 3 (some .int) (kk_R 2) (kk_Qi Z sh_C (fun r σ' => σ' = σ ∧ Q r)) 4 [(0, .ref (Z.2.1 8)), (1, .int v1_1), (2, .int v2_2)] [] σ) ?_ h
  intro rec_3 hrec_3 v1_1 v2_2 h
  refine kk_iload_n 2 rfl e_X0_most_4 ?_
  refine kk_iconst ic_4 e_X0_most_5 ?_
  refine kk_icmp_gt e_X0_most_6 (fun c_7 => ?_) (fun c_7 => ?_)
  · replace h := h.1 c_7
    refine kk_iload_n 1 rfl e_X0_most_26 ?_
    exact kk_iret e_X0_most_27 ⟨rfl, h⟩
  · replace h := h.2 c_7
    refine kk_aload_n 0 rfl e_X0_most_9 ?_
    refine kk_getr e_X0_most_10 fl_X0_9 rfl rfl ?_
    refine kk_iload_n 2 rfl e_X0_most_13 ?_
    refine kk_iald e_X0_most_14 rfl h.1 ?_
    replace h := h.2
    refine kk_jW1 (P := fun (v1_4 : Int32) => KK Z sh_C RX0 cX0_most 3 (some .int) (kk_R 2) (kk_Qi Z sh_C (fun r σ' => σ' = σ ∧ Q r)) 20 [(0, .ref (Z.2.1 8)), (1, .int v1_4), (2, .int v2_2)] [] σ) h ?_ ?_
    · intro v1_4 h
      refine kk_iinc (lv' := [(2, .int (v2_2 + (1 : Int32))), (0, .ref (Z.2.1 8)), (1, .int v1_4)]) e_X0_most_20 (j := 2) rfl (ii_1 v2_2) (by decide) rfl ?_
      refine kk_goto e_X0_most_23 ?_
      exact kk_sub [1, 2, 0] rfl (hrec_3 v1_4 (v2_2 + (1 : Int32)) h)
    · intro J_5 hJ_5 h
      refine kk_if_le e_X0_most_15 (fun c_6 => ?_) (fun c_6 => ?_)
      · replace h := h.1 c_6
        exact kk_sub [0, 1, 2] rfl (hJ_5 v1_1 h)
      · replace h := h.2 c_6
        refine kk_iload_n 2 rfl e_X0_most_18 ?_
        refine kk_istore_n (lv' := [(1, .int v2_2), (0, .ref (Z.2.1 8)), (2, .int v2_2)]) e_X0_most_19 rfl (by decide) rfl ?_
        exact kk_sub [1, 0, 2] rfl (hJ_5 v2_2 h)
theorem e_X10_apart_0 : kk_d cX10_apart 0 (.iload_n 1) 1 1 := ⟨by decide +kernel, rfl⟩
theorem e_X10_apart_1 : kk_dj cX10_apart 1 (.ifCond .lt 8) 3 (8) 4 9 := ⟨by decide +kernel, rfl, by decide⟩
theorem e_X10_apart_9 : kk_d cX10_apart 9 (.iconst (-1)) 1 10 := ⟨by decide +kernel, rfl⟩
theorem e_X10_apart_10 : kk_d cX10_apart 10 .ireturn 1 11 := ⟨by decide +kernel, rfl⟩
theorem e_X10_apart_4 : kk_d cX10_apart 4 (.iload_n 1) 1 5 := ⟨by decide +kernel, rfl⟩
theorem e_X10_apart_5 : kk_d cX10_apart 5 (.iconst 1) 1 6 := ⟨by decide +kernel, rfl⟩
theorem e_X10_apart_6 : kk_dj cX10_apart 6 (.if_icmp .le 5) 3 (5) 9 11 := ⟨by decide +kernel, rfl, by decide⟩
theorem e_X10_apart_11 : kk_d cX10_apart 11 (.aload_n 0) 1 12 := ⟨by decide +kernel, rfl⟩
theorem e_X10_apart_12 : kk_d cX10_apart 12 (.getfield 67) 3 15 := ⟨by decide +kernel, rfl⟩
theorem e_X10_apart_15 : kk_d cX10_apart 15 (.invokevirtual 291) 3 18 := ⟨by decide +kernel, rfl⟩
theorem e_X10_apart_18 : kk_d cX10_apart 18 (.aload_n 0) 1 19 := ⟨by decide +kernel, rfl⟩
theorem e_X10_apart_19 : kk_d cX10_apart 19 (.getfield 67) 3 22 := ⟨by decide +kernel, rfl⟩
theorem e_X10_apart_22 : kk_d cX10_apart 22 (.invokevirtual 317) 3 25 := ⟨by decide +kernel, rfl⟩
theorem e_X10_apart_25 : kk_d cX10_apart 25 (.istore_n 2) 1 26 := ⟨by decide +kernel, rfl⟩
theorem e_X10_apart_26 : kk_d cX10_apart 26 (.iload_n 1) 1 27 := ⟨by decide +kernel, rfl⟩
theorem e_X10_apart_27 : kk_dj cX10_apart 27 (.ifCond .ne 7) 3 (7) 30 34 := ⟨by decide +kernel, rfl, by decide⟩
theorem e_X10_apart_43 : kk_d cX10_apart 43 .ireturn 1 44 := ⟨by decide +kernel, rfl⟩
theorem e_X10_apart_34 : kk_d cX10_apart 34 (.aload_n 0) 1 35 := ⟨by decide +kernel, rfl⟩
theorem e_X10_apart_35 : kk_d cX10_apart 35 (.getfield 67) 3 38 := ⟨by decide +kernel, rfl⟩
theorem e_X10_apart_38 : kk_d cX10_apart 38 (.getfield 320) 3 41 := ⟨by decide +kernel, rfl⟩
theorem e_X10_apart_41 : kk_d cX10_apart 41 (.iload_n 2) 1 42 := ⟨by decide +kernel, rfl⟩
theorem e_X10_apart_42 : kk_d cX10_apart 42 .iaload 1 43 := ⟨by decide +kernel, rfl⟩
theorem e_X10_apart_30 : kk_d cX10_apart 30 (.iload_n 2) 1 31 := ⟨by decide +kernel, rfl⟩
theorem e_X10_apart_31 : kk_dj cX10_apart 31 (.goto 12) 3 (12) 34 43 := ⟨by decide +kernel, rfl, by decide⟩
set_option maxRecDepth 4000 in
theorem s_X10_apart (Z : kk_Z) (v1 : Int32) (σ : kk_St) (Q : Int32 → kk_St → Prop) (h : f_X10_apart v1 σ Q) : kk_M Z sh_C yX10_apart cX10_apart 3 (some .int) (kk_R 34) [.ref (Z.2.1 0), .int v1] σ (kk_Qi Z sh_C Q) := by
  unfold f_X10_apart at h
  refine kk_met (own := RX10) (by decide) rfl (Nat.le_of_ble_eq_true rfl) rfl ?_
  refine kk_iload_n 1 rfl e_X10_apart_0 ?_
  refine kk_jW0 (P := KK Z sh_C RX10 cX10_apart 3 (some .int) (kk_R 34) (kk_Qi Z sh_C Q) 9 [] [] σ) h ?_ ?_
  · intro h
    refine kk_iconst ic_m1 e_X10_apart_9 ?_
    exact kk_iret e_X10_apart_10 h
  · intro J_1 hJ_1 h
    refine kk_if_lt e_X10_apart_1 (fun c_8 => ?_) (fun c_8 => ?_)
    · replace h := h.1 c_8
      exact kk_sub [] rfl (hJ_1 h)
    · replace h := h.2 c_8
      refine kk_iload_n 1 rfl e_X10_apart_4 ?_
      refine kk_iconst ic_1 e_X10_apart_5 ?_
      refine kk_icmp_le e_X10_apart_6 (fun c_7 => ?_) (fun c_7 => ?_)
      · replace h := h.1 c_7
        refine kk_aload_n 0 rfl e_X10_apart_11 ?_
        refine kk_getr e_X10_apart_12 fl_X10_67 rfl rfl ?_
        refine kk_callVv (As := []) (rest := []) e_X10_apart_15 ml_X10_291 ⟨_, _, _, _, rfl, rfl⟩ rfl (kk_fitR (by decide) (by decide)) (Nat.le_of_ble_eq_true rfl) rfl (s_X0_gatherAll Z σ _ h) (fun σ_2 h => ?_)
        refine kk_aload_n 0 rfl e_X10_apart_18 ?_
        refine kk_getr e_X10_apart_19 fl_X10_67 rfl rfl ?_
        refine kk_callVip (As := []) (rest := []) e_X10_apart_22 ml_X10_317 ⟨_, _, _, _, rfl, rfl⟩ rfl (kk_fitR (by decide) (by decide)) (Nat.le_of_ble_eq_true rfl) rfl (s_X0_most Z σ_2 _ h) (fun r_3 h => ?_)
        refine kk_istore_n (lv' := [(2, .int r_3), (0, .ref (Z.2.1 0)), (1, .int v1)]) e_X10_apart_25 rfl (by decide) rfl ?_
        refine kk_iload_n 2 rfl e_X10_apart_26 ?_
        refine kk_jW1 (P := fun (t_4 : Int32) => KK Z sh_C RX10 cX10_apart 3 (some .int) (kk_R 34) (kk_Qi Z sh_C Q) 43 [] [.int t_4] σ_2) h ?_ ?_
        · intro t_4 h
          exact kk_iret e_X10_apart_43 h
        · intro J_5 hJ_5 h
          refine kk_if_ne e_X10_apart_27 (fun c_6 => ?_) (fun c_6 => ?_)
          · replace h := h.1 c_6
            refine kk_aload_n 1 rfl e_X10_apart_34 ?_
            refine kk_getr e_X10_apart_35 fl_X10_67 rfl rfl ?_
            refine kk_getr e_X10_apart_38 fl_X10_320 rfl rfl ?_
            refine kk_iload_n 0 rfl e_X10_apart_41 ?_
            refine kk_iald e_X10_apart_42 rfl h.1 ?_
            replace h := h.2
            exact kk_sub [] rfl (hJ_5 (kk_rd σ_2 24 r_3) h)
          · replace h := h.2 c_6
            refine kk_iload_n 0 rfl e_X10_apart_30 ?_
            refine kk_goto e_X10_apart_31 ?_
            exact kk_sub [] rfl (hJ_5 r_3 h)
      · replace h := h.2 c_7
        exact kk_sub [] rfl (hJ_1 h)
theorem e_X10_areAllBelow_0 : kk_d cX10_areAllBelow 0 (.iconst 0) 1 1 := ⟨by decide +kernel, rfl⟩
theorem e_X10_areAllBelow_1 : kk_d cX10_areAllBelow 1 (.istore_n 3) 1 2 := ⟨by decide +kernel, rfl⟩
theorem e_X10_areAllBelow_27 : kk_d cX10_areAllBelow 27 (.iconst 0) 1 28 := ⟨by decide +kernel, rfl⟩
theorem e_X10_areAllBelow_28 : kk_d cX10_areAllBelow 28 .ireturn 1 29 := ⟨by decide +kernel, rfl⟩
theorem e_X10_areAllBelow_2 : kk_d cX10_areAllBelow 2 (.iload_n 3) 1 3 := ⟨by decide +kernel, rfl⟩
theorem e_X10_areAllBelow_3 : kk_d cX10_areAllBelow 3 (.aload_n 0) 1 4 := ⟨by decide +kernel, rfl⟩
theorem e_X10_areAllBelow_4 : kk_d cX10_areAllBelow 4 (.getfield 10) 3 7 := ⟨by decide +kernel, rfl⟩
theorem e_X10_areAllBelow_7 : kk_d cX10_areAllBelow 7 (.getfield 112) 3 10 := ⟨by decide +kernel, rfl⟩
theorem e_X10_areAllBelow_10 : kk_dj cX10_areAllBelow 10 (.if_icmp .ge 25) 3 (25) 13 35 := ⟨by decide +kernel, rfl, by decide⟩
theorem e_X10_areAllBelow_35 : kk_d cX10_areAllBelow 35 (.iconst 1) 1 36 := ⟨by decide +kernel, rfl⟩
theorem e_X10_areAllBelow_36 : kk_d cX10_areAllBelow 36 .ireturn 1 37 := ⟨by decide +kernel, rfl⟩
theorem e_X10_areAllBelow_13 : kk_d cX10_areAllBelow 13 (.aload_n 1) 1 14 := ⟨by decide +kernel, rfl⟩
theorem e_X10_areAllBelow_14 : kk_d cX10_areAllBelow 14 (.iload_n 3) 1 15 := ⟨by decide +kernel, rfl⟩
theorem e_X10_areAllBelow_15 : kk_d cX10_areAllBelow 15 .iaload 1 16 := ⟨by decide +kernel, rfl⟩
theorem e_X10_areAllBelow_16 : kk_d cX10_areAllBelow 16 (.iconst (-1)) 1 17 := ⟨by decide +kernel, rfl⟩
theorem e_X10_areAllBelow_17 : kk_dj cX10_areAllBelow 17 (.if_icmp .eq 10) 3 (10) 20 27 := ⟨by decide +kernel, rfl, by decide⟩
theorem e_X10_areAllBelow_20 : kk_d cX10_areAllBelow 20 (.aload_n 1) 1 21 := ⟨by decide +kernel, rfl⟩
theorem e_X10_areAllBelow_21 : kk_d cX10_areAllBelow 21 (.iload_n 3) 1 22 := ⟨by decide +kernel, rfl⟩
theorem e_X10_areAllBelow_22 : kk_d cX10_areAllBelow 22 .iaload 1 23 := ⟨by decide +kernel, rfl⟩
theorem e_X10_areAllBelow_23 : kk_d cX10_areAllBelow 23 (.iload_n 2) 1 24 := ⟨by decide +kernel, rfl⟩
theorem e_X10_areAllBelow_24 : kk_dj cX10_areAllBelow 24 (.if_icmp .lt 5) 3 (5) 27 29 := ⟨by decide +kernel, rfl, by decide⟩
theorem e_X10_areAllBelow_29 : kk_d cX10_areAllBelow 29 (.iinc 3 1) 3 32 := ⟨by decide +kernel, rfl⟩
theorem e_X10_areAllBelow_32 : kk_dj cX10_areAllBelow 32 (.goto (-30)) 3 (-30) 35 2 := ⟨by decide +kernel, rfl, by decide⟩
set_option maxRecDepth 4000 in
theorem s_X10_areAllBelow (Z : kk_Z) (a1 : Nat) (n1 : Nat) (v2 : Int32) (σ : kk_St) (Q : Int32 → Prop) (ha1 : sh_C[a1]? = some (.inl (false, n1))) (h : f_X10_areAllBelow a1 n1 v2 σ Q) : kk_M Z sh_C yX10_areAllBelow cX10_areAllBelow 4 (some .boolean) (kk_R 2) [.ref (Z.2.1 0), .ref (Z.2.1 a1), .int v2] σ (kk_Qi Z sh_C (fun r σ' => σ' = σ ∧ Q r)) := by
  unfold f_X10_areAllBelow at h
  refine kk_met (own := RX10) (by decide) rfl (Nat.le_of_ble_eq_true rfl) rfl ?_
  refine kk_iconst ic_0 e_X10_areAllBelow_0 ?_
  refine kk_istore_n (lv' := [(3, .int (0 : Int32)), (0, .ref (Z.2.1 0)), (1, .ref (Z.2.1 a1)), (2, .int v2)]) e_X10_areAllBelow_1 rfl (by decide) rfl ?_
  refine kk_jW0 (P := KK Z sh_C RX10 cX10_areAllBelow 4 (some .boolean) (kk_R 2) (kk_Qi Z sh_C (fun r σ' => σ' = σ ∧ Q r)) 27 [] [] σ) h ?_ ?_
  · intro h
    refine kk_iconst ic_0 e_X10_areAllBelow_27 ?_
    exact kk_zret e_X10_areAllBelow_28 (Or.inl rfl) ⟨rfl, h⟩
  · intro J_1 hJ_1 h
    refine kk_sub [1, 2, 3, 0] rfl ?_
    refine kk_lpW1 (P := fun (v3_2 : Int32) => KK Z sh_C RX10 cX10_areAllBelow 4 (some .boolean) (kk_R 2) (kk_Qi Z sh_C (fun r σ' => σ' = σ ∧ Q r)) 2 [(0, .ref (Z.2.1 0)), (1, .ref (Z.2.1 a1)), (2, .int v2), (3, .int v3_2)] [] σ) ?_ h
    intro rec_3 hrec_3 v3_2 h
    refine kk_iload_n 3 rfl e_X10_areAllBelow_2 ?_
    refine kk_aload_n 0 rfl e_X10_areAllBelow_3 ?_
    refine kk_getr e_X10_areAllBelow_4 fl_X10_10 rfl rfl ?_
    refine kk_geti e_X10_areAllBelow_7 fl_X10_112 rfl rfl ?_
    refine kk_icmp_ge e_X10_areAllBelow_10 (fun c_6 => ?_) (fun c_6 => ?_)
    · replace h := h.1 c_6
      refine kk_iconst ic_1 e_X10_areAllBelow_35 ?_
      exact kk_zret e_X10_areAllBelow_36 (Or.inr rfl) ⟨rfl, h⟩
    · replace h := h.2 c_6
      refine kk_aload_n 1 rfl e_X10_areAllBelow_13 ?_
      refine kk_iload_n 3 rfl e_X10_areAllBelow_14 ?_
      refine kk_iald e_X10_areAllBelow_15 ha1 h.1 ?_
      replace h := h.2
      refine kk_iconst ic_m1 e_X10_areAllBelow_16 ?_
      refine kk_icmp_eq e_X10_areAllBelow_17 (fun c_5 => ?_) (fun c_5 => ?_)
      · replace h := h.1 c_5
        exact kk_sub [] rfl (hJ_1 h)
      · replace h := h.2 c_5
        refine kk_aload_n 1 rfl e_X10_areAllBelow_20 ?_
        refine kk_iload_n 3 rfl e_X10_areAllBelow_21 ?_
        refine kk_iald e_X10_areAllBelow_22 ha1 h.1 ?_
        replace h := h.2
        refine kk_iload_n 2 rfl e_X10_areAllBelow_23 ?_
        refine kk_icmp_lt e_X10_areAllBelow_24 (fun c_4 => ?_) (fun c_4 => ?_)
        · replace h := h.1 c_4
          refine kk_iinc (lv' := [(3, .int (v3_2 + (1 : Int32))), (0, .ref (Z.2.1 0)), (1, .ref (Z.2.1 a1)), (2, .int v2)]) e_X10_areAllBelow_29 (j := 3) rfl (ii_1 v3_2) (by decide) rfl ?_
          refine kk_goto e_X10_areAllBelow_32 ?_
          exact kk_sub [1, 2, 3, 0] rfl (hrec_3 (v3_2 + (1 : Int32)) h)
        · replace h := h.2 c_4
          exact kk_sub [] rfl (hJ_1 h)
theorem e_X10_countUnlike_0 : kk_d cX10_countUnlike 0 (.iconst 0) 1 1 := ⟨by decide +kernel, rfl⟩
theorem e_X10_countUnlike_1 : kk_d cX10_countUnlike 1 (.istore_n 1) 1 2 := ⟨by decide +kernel, rfl⟩
theorem e_X10_countUnlike_2 : kk_d cX10_countUnlike 2 (.iconst 0) 1 3 := ⟨by decide +kernel, rfl⟩
theorem e_X10_countUnlike_3 : kk_d cX10_countUnlike 3 (.istore_n 2) 1 4 := ⟨by decide +kernel, rfl⟩
theorem e_X10_countUnlike_4 : kk_d cX10_countUnlike 4 (.iload_n 2) 1 5 := ⟨by decide +kernel, rfl⟩
theorem e_X10_countUnlike_5 : kk_d cX10_countUnlike 5 (.aload_n 0) 1 6 := ⟨by decide +kernel, rfl⟩
theorem e_X10_countUnlike_6 : kk_d cX10_countUnlike 6 (.getfield 10) 3 9 := ⟨by decide +kernel, rfl⟩
theorem e_X10_countUnlike_9 : kk_d cX10_countUnlike 9 (.getfield 112) 3 12 := ⟨by decide +kernel, rfl⟩
theorem e_X10_countUnlike_12 : kk_dj cX10_countUnlike 12 (.if_icmp .ge 30) 3 (30) 15 42 := ⟨by decide +kernel, rfl, by decide⟩
theorem e_X10_countUnlike_42 : kk_d cX10_countUnlike 42 (.iload_n 1) 1 43 := ⟨by decide +kernel, rfl⟩
theorem e_X10_countUnlike_43 : kk_d cX10_countUnlike 43 .ireturn 1 44 := ⟨by decide +kernel, rfl⟩
theorem e_X10_countUnlike_15 : kk_d cX10_countUnlike 15 (.aload_n 0) 1 16 := ⟨by decide +kernel, rfl⟩
theorem e_X10_countUnlike_16 : kk_d cX10_countUnlike 16 (.getfield 85) 3 19 := ⟨by decide +kernel, rfl⟩
theorem e_X10_countUnlike_19 : kk_d cX10_countUnlike 19 (.iload_n 2) 1 20 := ⟨by decide +kernel, rfl⟩
theorem e_X10_countUnlike_20 : kk_d cX10_countUnlike 20 .iaload 1 21 := ⟨by decide +kernel, rfl⟩
theorem e_X10_countUnlike_21 : kk_d cX10_countUnlike 21 (.aload_n 0) 1 22 := ⟨by decide +kernel, rfl⟩
theorem e_X10_countUnlike_22 : kk_d cX10_countUnlike 22 (.getfield 21) 3 25 := ⟨by decide +kernel, rfl⟩
theorem e_X10_countUnlike_25 : kk_d cX10_countUnlike 25 (.getfield 137) 3 28 := ⟨by decide +kernel, rfl⟩
theorem e_X10_countUnlike_28 : kk_d cX10_countUnlike 28 (.iload_n 2) 1 29 := ⟨by decide +kernel, rfl⟩
theorem e_X10_countUnlike_29 : kk_d cX10_countUnlike 29 .iaload 1 30 := ⟨by decide +kernel, rfl⟩
theorem e_X10_countUnlike_30 : kk_dj cX10_countUnlike 30 (.if_icmp .eq 6) 3 (6) 33 36 := ⟨by decide +kernel, rfl, by decide⟩
theorem e_X10_countUnlike_36 : kk_d cX10_countUnlike 36 (.iinc 2 1) 3 39 := ⟨by decide +kernel, rfl⟩
theorem e_X10_countUnlike_39 : kk_dj cX10_countUnlike 39 (.goto (-35)) 3 (-35) 42 4 := ⟨by decide +kernel, rfl, by decide⟩
theorem e_X10_countUnlike_33 : kk_d cX10_countUnlike 33 (.iinc 1 1) 3 36 := ⟨by decide +kernel, rfl⟩
set_option maxRecDepth 4000 in
theorem s_X10_countUnlike (Z : kk_Z) (σ : kk_St) (Q : Int32 → Prop) (h : f_X10_countUnlike σ Q) : kk_M Z sh_C yX10_countUnlike cX10_countUnlike 3 (some .int) (kk_R 2) [.ref (Z.2.1 0)] σ (kk_Qi Z sh_C (fun r σ' => σ' = σ ∧ Q r)) := by
  unfold f_X10_countUnlike at h
  refine kk_met (own := RX10) (by decide) rfl (Nat.le_of_ble_eq_true rfl) rfl ?_
  refine kk_iconst ic_0 e_X10_countUnlike_0 ?_
  refine kk_istore_n (lv' := [(1, .int (0 : Int32)), (0, .ref (Z.2.1 0))]) e_X10_countUnlike_1 rfl (by decide) rfl ?_
  refine kk_iconst ic_0 e_X10_countUnlike_2 ?_
  refine kk_istore_n (lv' := [(2, .int (0 : Int32)), (1, .int (0 : Int32)), (0, .ref (Z.2.1 0))]) e_X10_countUnlike_3 rfl (by decide) rfl ?_
  refine kk_sub [2, 1, 0] rfl ?_
  refine kk_lpW2 (P := fun (v1_1 : Int32) (v2_2 : Int32) => KK Z sh_C RX10 cX10_countUnlike 3 (some .int) (kk_R 2) (kk_Qi Z sh_C (fun r σ' => σ' = σ ∧ Q r)) 4 [(0, .ref (Z.2.1 0)), (1, .int v1_1), (2, .int v2_2)] [] σ) ?_ h
  intro rec_3 hrec_3 v1_1 v2_2 h
  refine kk_iload_n 2 rfl e_X10_countUnlike_4 ?_
  refine kk_aload_n 0 rfl e_X10_countUnlike_5 ?_
  refine kk_getr e_X10_countUnlike_6 fl_X10_10 rfl rfl ?_
  refine kk_geti e_X10_countUnlike_9 fl_X10_112 rfl rfl ?_
  refine kk_icmp_ge e_X10_countUnlike_12 (fun c_7 => ?_) (fun c_7 => ?_)
  · replace h := h.1 c_7
    refine kk_iload_n 1 rfl e_X10_countUnlike_42 ?_
    exact kk_iret e_X10_countUnlike_43 ⟨rfl, h⟩
  · replace h := h.2 c_7
    refine kk_aload_n 0 rfl e_X10_countUnlike_15 ?_
    refine kk_getr e_X10_countUnlike_16 fl_X10_85 rfl rfl ?_
    refine kk_iload_n 2 rfl e_X10_countUnlike_19 ?_
    refine kk_iald e_X10_countUnlike_20 rfl h.1 ?_
    replace h := h.2
    refine kk_aload_n 0 rfl e_X10_countUnlike_21 ?_
    refine kk_getr e_X10_countUnlike_22 fl_X10_21 rfl rfl ?_
    refine kk_getr e_X10_countUnlike_25 fl_X10_137 rfl rfl ?_
    refine kk_iload_n 2 rfl e_X10_countUnlike_28 ?_
    refine kk_iald e_X10_countUnlike_29 rfl h.1 ?_
    replace h := h.2
    refine kk_jW1 (P := fun (v1_4 : Int32) => KK Z sh_C RX10 cX10_countUnlike 3 (some .int) (kk_R 2) (kk_Qi Z sh_C (fun r σ' => σ' = σ ∧ Q r)) 36 [(0, .ref (Z.2.1 0)), (1, .int v1_4), (2, .int v2_2)] [] σ) h ?_ ?_
    · intro v1_4 h
      refine kk_iinc (lv' := [(2, .int (v2_2 + (1 : Int32))), (0, .ref (Z.2.1 0)), (1, .int v1_4)]) e_X10_countUnlike_36 (j := 2) rfl (ii_1 v2_2) (by decide) rfl ?_
      refine kk_goto e_X10_countUnlike_39 ?_
      exact kk_sub [1, 2, 0] rfl (hrec_3 v1_4 (v2_2 + (1 : Int32)) h)
    · intro J_5 hJ_5 h
      refine kk_icmp_eq e_X10_countUnlike_30 (fun c_6 => ?_) (fun c_6 => ?_)
      · replace h := h.1 c_6
        exact kk_sub [0, 1, 2] rfl (hJ_5 v1_1 h)
      · replace h := h.2 c_6
        refine kk_iinc (lv' := [(1, .int (v1_1 + (1 : Int32))), (0, .ref (Z.2.1 0)), (2, .int v2_2)]) e_X10_countUnlike_33 (j := 1) rfl (ii_1 v1_1) (by decide) rfl ?_
        exact kk_sub [1, 0, 2] rfl (hJ_5 (v1_1 + (1 : Int32)) h)
theorem e_X3_clear_0 : kk_d cX3_clear 0 (.aload_n 0) 1 1 := ⟨by decide +kernel, rfl⟩
theorem e_X3_clear_1 : kk_d cX3_clear 1 (.getfield 9) 3 4 := ⟨by decide +kernel, rfl⟩
theorem e_X3_clear_4 : kk_d cX3_clear 4 (.iconst (-1)) 1 5 := ⟨by decide +kernel, rfl⟩
theorem e_X3_clear_5 : kk_d cX3_clear 5 (.invokestatic 22) 3 8 := ⟨by decide +kernel, rfl⟩
theorem e_X3_clear_8 : kk_d cX3_clear 8 (.aload_n 0) 1 9 := ⟨by decide +kernel, rfl⟩
theorem e_X3_clear_9 : kk_d cX3_clear 9 (.getfield 15) 3 12 := ⟨by decide +kernel, rfl⟩
theorem e_X3_clear_12 : kk_d cX3_clear 12 (.iconst 0) 1 13 := ⟨by decide +kernel, rfl⟩
theorem e_X3_clear_13 : kk_d cX3_clear 13 (.invokestatic 22) 3 16 := ⟨by decide +kernel, rfl⟩
theorem e_X3_clear_16 : kk_d cX3_clear 16 .return_ 1 17 := ⟨by decide +kernel, rfl⟩
set_option maxRecDepth 4000 in
theorem s_X3_clear (Z : kk_Z) (σ : kk_St) (Q : kk_St → Prop) (h : f_X3_clear σ Q) : kk_M Z sh_C yX3_clear cX3_clear 1 none (kk_R 3) [.ref (Z.2.1 2)] σ (kk_Qv Z sh_C Q) := by
  unfold f_X3_clear at h
  refine kk_met (own := RX3) (by decide) rfl (Nat.le_of_ble_eq_true rfl) rfl ?_
  refine kk_aload_n 0 rfl e_X3_clear_0 ?_
  refine kk_getr e_X3_clear_1 fl_X3_9 rfl rfl ?_
  refine kk_iconst ic_m1 e_X3_clear_4 ?_
  refine kk_callSv (As := [.ref (Z.2.1 16), .int (-1 : Int32)]) (rest := []) e_X3_clear_5 ml_X3_22 rfl (kk_fitR (by decide) (by decide)) (Nat.le_of_ble_eq_true rfl) rfl (s_J7_fill_53178 Z 16 20 (-1 : Int32) σ _ rfl h) (fun σ_1 h => ?_)
  refine kk_aload_n 0 rfl e_X3_clear_8 ?_
  refine kk_getr e_X3_clear_9 fl_X3_15 rfl rfl ?_
  refine kk_iconst ic_0 e_X3_clear_12 ?_
  refine kk_callSv (As := [.ref (Z.2.1 17), .int (0 : Int32)]) (rest := []) e_X3_clear_13 ml_X3_22 rfl (kk_fitR (by decide) (by decide)) (Nat.le_of_ble_eq_true rfl) rfl (s_J7_fill_53178 Z 17 9 (0 : Int32) σ_1 _ rfl h) (fun σ_2 h => ?_)
  exact kk_vret e_X3_clear_16 h
theorem e_X3_strip_0 : kk_d cX3_strip 0 (.aload_n 0) 1 1 := ⟨by decide +kernel, rfl⟩
theorem e_X3_strip_1 : kk_d cX3_strip 1 (.getfield 9) 3 4 := ⟨by decide +kernel, rfl⟩
theorem e_X3_strip_4 : kk_d cX3_strip 4 (.iload_n 1) 1 5 := ⟨by decide +kernel, rfl⟩
theorem e_X3_strip_5 : kk_d cX3_strip 5 .iaload 1 6 := ⟨by decide +kernel, rfl⟩
theorem e_X3_strip_6 : kk_d cX3_strip 6 (.istore_n 2) 1 7 := ⟨by decide +kernel, rfl⟩
theorem e_X3_strip_7 : kk_d cX3_strip 7 (.iload_n 2) 1 8 := ⟨by decide +kernel, rfl⟩
theorem e_X3_strip_8 : kk_d cX3_strip 8 (.iconst (-1)) 1 9 := ⟨by decide +kernel, rfl⟩
theorem e_X3_strip_9 : kk_dj cX3_strip 9 (.if_icmp .eq 24) 3 (24) 12 33 := ⟨by decide +kernel, rfl, by decide⟩
theorem e_X3_strip_33 : kk_d cX3_strip 33 .return_ 1 34 := ⟨by decide +kernel, rfl⟩
theorem e_X3_strip_12 : kk_d cX3_strip 12 (.aload_n 0) 1 13 := ⟨by decide +kernel, rfl⟩
theorem e_X3_strip_13 : kk_d cX3_strip 13 (.getfield 15) 3 16 := ⟨by decide +kernel, rfl⟩
theorem e_X3_strip_16 : kk_d cX3_strip 16 (.iload_n 2) 1 17 := ⟨by decide +kernel, rfl⟩
theorem e_X3_strip_17 : kk_d cX3_strip 17 .dup2 1 18 := ⟨by decide +kernel, rfl⟩
theorem e_X3_strip_18 : kk_d cX3_strip 18 .iaload 1 19 := ⟨by decide +kernel, rfl⟩
theorem e_X3_strip_19 : kk_d cX3_strip 19 (.iconst 1) 1 20 := ⟨by decide +kernel, rfl⟩
theorem e_X3_strip_20 : kk_d cX3_strip 20 (.iload_n 1) 1 21 := ⟨by decide +kernel, rfl⟩
theorem e_X3_strip_21 : kk_d cX3_strip 21 .ishl 1 22 := ⟨by decide +kernel, rfl⟩
theorem e_X3_strip_22 : kk_d cX3_strip 22 (.iconst (-1)) 1 23 := ⟨by decide +kernel, rfl⟩
theorem e_X3_strip_23 : kk_d cX3_strip 23 .ixor 1 24 := ⟨by decide +kernel, rfl⟩
theorem e_X3_strip_24 : kk_d cX3_strip 24 .iand 1 25 := ⟨by decide +kernel, rfl⟩
theorem e_X3_strip_25 : kk_d cX3_strip 25 .iastore 1 26 := ⟨by decide +kernel, rfl⟩
theorem e_X3_strip_26 : kk_d cX3_strip 26 (.aload_n 0) 1 27 := ⟨by decide +kernel, rfl⟩
theorem e_X3_strip_27 : kk_d cX3_strip 27 (.getfield 9) 3 30 := ⟨by decide +kernel, rfl⟩
theorem e_X3_strip_30 : kk_d cX3_strip 30 (.iload_n 1) 1 31 := ⟨by decide +kernel, rfl⟩
theorem e_X3_strip_31 : kk_d cX3_strip 31 (.iconst (-1)) 1 32 := ⟨by decide +kernel, rfl⟩
theorem e_X3_strip_32 : kk_d cX3_strip 32 .iastore 1 33 := ⟨by decide +kernel, rfl⟩
set_option maxRecDepth 4000 in
theorem s_X3_strip (Z : kk_Z) (v1 : Int32) (σ : kk_St) (Q : kk_St → Prop) (h : f_X3_strip v1 σ Q) : kk_M Z sh_C yX3_strip cX3_strip 3 none (kk_R 2) [.ref (Z.2.1 2), .int v1] σ (kk_Qv Z sh_C Q) := by
  unfold f_X3_strip at h
  refine kk_met (own := RX3) (by decide) rfl (Nat.le_of_ble_eq_true rfl) rfl ?_
  refine kk_aload_n 0 rfl e_X3_strip_0 ?_
  refine kk_getr e_X3_strip_1 fl_X3_9 rfl rfl ?_
  refine kk_iload_n 1 rfl e_X3_strip_4 ?_
  refine kk_iald e_X3_strip_5 rfl h.1 ?_
  replace h := h.2
  refine kk_istore_n (lv' := [(2, .int (kk_rd σ 16 v1)), (0, .ref (Z.2.1 2)), (1, .int v1)]) e_X3_strip_6 rfl (by decide) rfl ?_
  refine kk_iload_n 0 rfl e_X3_strip_7 ?_
  refine kk_iconst ic_m1 e_X3_strip_8 ?_
  refine kk_jW1 (P := fun (σ_1 : kk_St) => KK Z sh_C RX3 cX3_strip 3 none (kk_R 2) (kk_Qv Z sh_C Q) 33 [] [] σ_1) h ?_ ?_
  · intro σ_1 h
    exact kk_vret e_X3_strip_33 h
  · intro J_2 hJ_2 h
    refine kk_icmp_eq e_X3_strip_9 (fun c_5 => ?_) (fun c_5 => ?_)
    · replace h := h.1 c_5
      exact kk_sub [] rfl (hJ_2 σ h)
    · replace h := h.2 c_5
      refine kk_aload_n 1 rfl e_X3_strip_12 ?_
      refine kk_getr e_X3_strip_13 fl_X3_15 rfl rfl ?_
      refine kk_iload_n 0 rfl e_X3_strip_16 ?_
      refine kk_dup2 rfl rfl e_X3_strip_17 ?_
      refine kk_iald e_X3_strip_18 rfl h.1 ?_
      replace h := h.2
      refine kk_iconst ic_1 e_X3_strip_19 ?_
      refine kk_iload_n 2 rfl e_X3_strip_20 ?_
      refine kk_ishl e_X3_strip_21 ?_
      refine kk_iconst ic_m1 e_X3_strip_22 ?_
      refine kk_ixor e_X3_strip_23 ?_
      refine kk_iand e_X3_strip_24 ?_
      refine kk_iast e_X3_strip_25 rfl h.1 ?_
      replace h := h.2
      refine kk_tops (fun σ_3 eσ_3 => ?_)
      replace h := h σ_3 eσ_3
      refine kk_aload_n 1 rfl e_X3_strip_26 ?_
      refine kk_getr e_X3_strip_27 fl_X3_9 rfl rfl ?_
      refine kk_iload_n 2 rfl e_X3_strip_30 ?_
      refine kk_iconst ic_m1 e_X3_strip_31 ?_
      refine kk_iast e_X3_strip_32 rfl h.1 ?_
      replace h := h.2
      refine kk_tops (fun σ_4 eσ_4 => ?_)
      replace h := h σ_4 eσ_4
      exact kk_sub [] rfl (hJ_2 σ_4 h)
theorem e_X3_give_0 : kk_d cX3_give 0 (.aload_n 0) 1 1 := ⟨by decide +kernel, rfl⟩
theorem e_X3_give_1 : kk_d cX3_give 1 (.iload_n 1) 1 2 := ⟨by decide +kernel, rfl⟩
theorem e_X3_give_2 : kk_d cX3_give 2 (.invokevirtual 78) 3 5 := ⟨by decide +kernel, rfl⟩
theorem e_X3_give_5 : kk_d cX3_give 5 (.aload_n 0) 1 6 := ⟨by decide +kernel, rfl⟩
theorem e_X3_give_6 : kk_d cX3_give 6 (.getfield 15) 3 9 := ⟨by decide +kernel, rfl⟩
theorem e_X3_give_9 : kk_d cX3_give 9 (.iload_n 2) 1 10 := ⟨by decide +kernel, rfl⟩
theorem e_X3_give_10 : kk_d cX3_give 10 .dup2 1 11 := ⟨by decide +kernel, rfl⟩
theorem e_X3_give_11 : kk_d cX3_give 11 .iaload 1 12 := ⟨by decide +kernel, rfl⟩
theorem e_X3_give_12 : kk_d cX3_give 12 (.iconst 1) 1 13 := ⟨by decide +kernel, rfl⟩
theorem e_X3_give_13 : kk_d cX3_give 13 (.iload_n 1) 1 14 := ⟨by decide +kernel, rfl⟩
theorem e_X3_give_14 : kk_d cX3_give 14 .ishl 1 15 := ⟨by decide +kernel, rfl⟩
theorem e_X3_give_15 : kk_d cX3_give 15 .ior 1 16 := ⟨by decide +kernel, rfl⟩
theorem e_X3_give_16 : kk_d cX3_give 16 .iastore 1 17 := ⟨by decide +kernel, rfl⟩
theorem e_X3_give_17 : kk_d cX3_give 17 (.aload_n 0) 1 18 := ⟨by decide +kernel, rfl⟩
theorem e_X3_give_18 : kk_d cX3_give 18 (.getfield 9) 3 21 := ⟨by decide +kernel, rfl⟩
theorem e_X3_give_21 : kk_d cX3_give 21 (.iload_n 1) 1 22 := ⟨by decide +kernel, rfl⟩
theorem e_X3_give_22 : kk_d cX3_give 22 (.iload_n 2) 1 23 := ⟨by decide +kernel, rfl⟩
theorem e_X3_give_23 : kk_d cX3_give 23 .iastore 1 24 := ⟨by decide +kernel, rfl⟩
theorem e_X3_give_24 : kk_d cX3_give 24 .return_ 1 25 := ⟨by decide +kernel, rfl⟩
set_option maxRecDepth 4000 in
theorem s_X3_give (Z : kk_Z) (v1 : Int32) (v2 : Int32) (σ : kk_St) (Q : kk_St → Prop) (h : f_X3_give v1 v2 σ Q) : kk_M Z sh_C yX3_give cX3_give 3 none (kk_R 3) [.ref (Z.2.1 2), .int v1, .int v2] σ (kk_Qv Z sh_C Q) := by
  unfold f_X3_give at h
  refine kk_met (own := RX3) (by decide) rfl (Nat.le_of_ble_eq_true rfl) rfl ?_
  refine kk_aload_n 0 rfl e_X3_give_0 ?_
  refine kk_iload_n 1 rfl e_X3_give_1 ?_
  refine kk_callVv (As := [.int v1]) (rest := []) e_X3_give_2 ml_X3_78 ⟨_, _, _, _, rfl, rfl⟩ rfl (kk_fitR (by decide) (by decide)) (Nat.le_of_ble_eq_true rfl) rfl (s_X3_strip Z v1 σ _ h) (fun σ_1 h => ?_)
  refine kk_aload_n 0 rfl e_X3_give_5 ?_
  refine kk_getr e_X3_give_6 fl_X3_15 rfl rfl ?_
  refine kk_iload_n 2 rfl e_X3_give_9 ?_
  refine kk_dup2 rfl rfl e_X3_give_10 ?_
  refine kk_iald e_X3_give_11 rfl h.1 ?_
  replace h := h.2
  refine kk_iconst ic_1 e_X3_give_12 ?_
  refine kk_iload_n 1 rfl e_X3_give_13 ?_
  refine kk_ishl e_X3_give_14 ?_
  refine kk_ior e_X3_give_15 ?_
  refine kk_iast e_X3_give_16 rfl h.1 ?_
  replace h := h.2
  refine kk_tops (fun σ_2 eσ_2 => ?_)
  replace h := h σ_2 eσ_2
  refine kk_aload_n 0 rfl e_X3_give_17 ?_
  refine kk_getr e_X3_give_18 fl_X3_9 rfl rfl ?_
  refine kk_iload_n 1 rfl e_X3_give_21 ?_
  refine kk_iload_n 2 rfl e_X3_give_22 ?_
  refine kk_iast e_X3_give_23 rfl h.1 ?_
  replace h := h.2
  refine kk_tops (fun σ_3 eσ_3 => ?_)
  replace h := h σ_3 eσ_3
  exact kk_vret e_X3_give_24 h
theorem e_X10_back_0 : kk_d cX10_back 0 (.aload_n 0) 1 1 := ⟨by decide +kernel, rfl⟩
theorem e_X10_back_1 : kk_d cX10_back 1 (.getfield 92) 3 4 := ⟨by decide +kernel, rfl⟩
theorem e_X10_back_4 : kk_dj cX10_back 4 (.ifCond .ne 5) 3 (5) 7 9 := ⟨by decide +kernel, rfl, by decide⟩
theorem e_X10_back_9 : kk_d cX10_back 9 (.aload_n 0) 1 10 := ⟨by decide +kernel, rfl⟩
theorem e_X10_back_10 : kk_d cX10_back 10 (.invokevirtual 191) 3 13 := ⟨by decide +kernel, rfl⟩
theorem e_X10_back_13 : kk_d cX10_back 13 (.istore_n 1) 1 14 := ⟨by decide +kernel, rfl⟩
theorem e_X10_back_14 : kk_d cX10_back 14 (.aload_n 0) 1 15 := ⟨by decide +kernel, rfl⟩
theorem e_X10_back_15 : kk_d cX10_back 15 (.getfield 21) 3 18 := ⟨by decide +kernel, rfl⟩
theorem e_X10_back_18 : kk_d cX10_back 18 (.invokevirtual 100) 3 21 := ⟨by decide +kernel, rfl⟩
theorem e_X10_back_21 : kk_d cX10_back 21 (.iconst 0) 1 22 := ⟨by decide +kernel, rfl⟩
theorem e_X10_back_22 : kk_d cX10_back 22 (.istore_n 2) 1 23 := ⟨by decide +kernel, rfl⟩
theorem e_X10_back_23 : kk_d cX10_back 23 (.iload_n 2) 1 24 := ⟨by decide +kernel, rfl⟩
theorem e_X10_back_24 : kk_d cX10_back 24 (.aload_n 0) 1 25 := ⟨by decide +kernel, rfl⟩
theorem e_X10_back_25 : kk_d cX10_back 25 (.getfield 10) 3 28 := ⟨by decide +kernel, rfl⟩
theorem e_X10_back_28 : kk_d cX10_back 28 (.getfield 112) 3 31 := ⟨by decide +kernel, rfl⟩
theorem e_X10_back_31 : kk_dj cX10_back 31 (.if_icmp .ge 33) 3 (33) 34 64 := ⟨by decide +kernel, rfl, by decide⟩
theorem e_X10_back_64 : kk_d cX10_back 64 (.iload_n 1) 1 65 := ⟨by decide +kernel, rfl⟩
theorem e_X10_back_65 : kk_d cX10_back 65 .ireturn 1 66 := ⟨by decide +kernel, rfl⟩
theorem e_X10_back_34 : kk_d cX10_back 34 (.aload_n 0) 1 35 := ⟨by decide +kernel, rfl⟩
theorem e_X10_back_35 : kk_d cX10_back 35 (.getfield 85) 3 38 := ⟨by decide +kernel, rfl⟩
theorem e_X10_back_38 : kk_d cX10_back 38 (.iload_n 2) 1 39 := ⟨by decide +kernel, rfl⟩
theorem e_X10_back_39 : kk_d cX10_back 39 .iaload 1 40 := ⟨by decide +kernel, rfl⟩
theorem e_X10_back_40 : kk_d cX10_back 40 (.iconst (-1)) 1 41 := ⟨by decide +kernel, rfl⟩
theorem e_X10_back_41 : kk_dj cX10_back 41 (.if_icmp .eq 17) 3 (17) 44 58 := ⟨by decide +kernel, rfl, by decide⟩
theorem e_X10_back_58 : kk_d cX10_back 58 (.iinc 2 1) 3 61 := ⟨by decide +kernel, rfl⟩
theorem e_X10_back_61 : kk_dj cX10_back 61 (.goto (-38)) 3 (-38) 64 23 := ⟨by decide +kernel, rfl, by decide⟩
theorem e_X10_back_44 : kk_d cX10_back 44 (.aload_n 0) 1 45 := ⟨by decide +kernel, rfl⟩
theorem e_X10_back_45 : kk_d cX10_back 45 (.getfield 21) 3 48 := ⟨by decide +kernel, rfl⟩
theorem e_X10_back_48 : kk_d cX10_back 48 (.iload_n 2) 1 49 := ⟨by decide +kernel, rfl⟩
theorem e_X10_back_49 : kk_d cX10_back 49 (.aload_n 0) 1 50 := ⟨by decide +kernel, rfl⟩
theorem e_X10_back_50 : kk_d cX10_back 50 (.getfield 85) 3 53 := ⟨by decide +kernel, rfl⟩
theorem e_X10_back_53 : kk_d cX10_back 53 (.iload_n 2) 1 54 := ⟨by decide +kernel, rfl⟩
theorem e_X10_back_54 : kk_d cX10_back 54 .iaload 1 55 := ⟨by decide +kernel, rfl⟩
theorem e_X10_back_55 : kk_d cX10_back 55 (.invokevirtual 134) 3 58 := ⟨by decide +kernel, rfl⟩
theorem e_X10_back_7 : kk_d cX10_back 7 (.iconst (-1)) 1 8 := ⟨by decide +kernel, rfl⟩
theorem e_X10_back_8 : kk_d cX10_back 8 .ireturn 1 9 := ⟨by decide +kernel, rfl⟩
set_option maxRecDepth 4000 in
theorem s_X10_back (Z : kk_Z) (σ : kk_St) (Q : Int32 → kk_St → Prop) (h : f_X10_back σ Q) : kk_M Z sh_C yX10_back cX10_back 3 (some .int) (kk_R 4) [.ref (Z.2.1 0)] σ (kk_Qi Z sh_C Q) := by
  unfold f_X10_back at h
  refine kk_met (own := RX10) (by decide) rfl (Nat.le_of_ble_eq_true rfl) rfl ?_
  refine kk_aload_n 0 rfl e_X10_back_0 ?_
  refine kk_geti e_X10_back_1 fl_X10_92 rfl rfl ?_
  refine kk_if_ne e_X10_back_4 (fun c_11 => ?_) (fun c_11 => ?_)
  · replace h := h.1 c_11
    refine kk_aload_n 0 rfl e_X10_back_9 ?_
    refine kk_callVip (As := []) (rest := []) e_X10_back_10 ml_X10_191 ⟨_, _, _, _, rfl, rfl⟩ rfl (kk_fitR (by decide) (by decide)) (Nat.le_of_ble_eq_true rfl) rfl (s_X10_countUnlike Z σ _ h) (fun r_1 h => ?_)
    refine kk_istore_n (lv' := [(1, .int r_1), (0, .ref (Z.2.1 0))]) e_X10_back_13 rfl (by decide) rfl ?_
    refine kk_aload_n 1 rfl e_X10_back_14 ?_
    refine kk_getr e_X10_back_15 fl_X10_21 rfl rfl ?_
    refine kk_callVv (As := []) (rest := []) e_X10_back_18 ml_X10_100 ⟨_, _, _, _, rfl, rfl⟩ rfl (kk_fitR (by decide) (by decide)) (Nat.le_of_ble_eq_true rfl) rfl (s_X3_clear Z σ _ h) (fun σ_2 h => ?_)
    refine kk_iconst ic_0 e_X10_back_21 ?_
    refine kk_istore_n (lv' := [(2, .int (0 : Int32)), (1, .int r_1), (0, .ref (Z.2.1 0))]) e_X10_back_22 rfl (by decide) rfl ?_
    refine kk_sub [2, 1, 0] rfl ?_
    refine kk_lpW2 (P := fun (v2_3 : Int32) (σ_4 : kk_St) => KK Z sh_C RX10 cX10_back 3 (some .int) (kk_R 4) (kk_Qi Z sh_C Q) 23 [(0, .ref (Z.2.1 0)), (1, .int r_1), (2, .int v2_3)] [] σ_4) ?_ h
    intro rec_5 hrec_5 v2_3 σ_4 h
    refine kk_iload_n 2 rfl e_X10_back_23 ?_
    refine kk_aload_n 0 rfl e_X10_back_24 ?_
    refine kk_getr e_X10_back_25 fl_X10_10 rfl rfl ?_
    refine kk_geti e_X10_back_28 fl_X10_112 rfl rfl ?_
    refine kk_icmp_ge e_X10_back_31 (fun c_10 => ?_) (fun c_10 => ?_)
    · replace h := h.1 c_10
      refine kk_iload_n 1 rfl e_X10_back_64 ?_
      exact kk_iret e_X10_back_65 h
    · replace h := h.2 c_10
      refine kk_aload_n 0 rfl e_X10_back_34 ?_
      refine kk_getr e_X10_back_35 fl_X10_85 rfl rfl ?_
      refine kk_iload_n 2 rfl e_X10_back_38 ?_
      refine kk_iald e_X10_back_39 rfl h.1 ?_
      replace h := h.2
      refine kk_iconst ic_m1 e_X10_back_40 ?_
      refine kk_jW1 (P := fun (σ_6 : kk_St) => KK Z sh_C RX10 cX10_back 3 (some .int) (kk_R 4) (kk_Qi Z sh_C Q) 58 [(0, .ref (Z.2.1 0)), (1, .int r_1), (2, .int v2_3)] [] σ_6) h ?_ ?_
      · intro σ_6 h
        refine kk_iinc (lv' := [(2, .int (v2_3 + (1 : Int32))), (0, .ref (Z.2.1 0)), (1, .int r_1)]) e_X10_back_58 (j := 2) rfl (ii_1 v2_3) (by decide) rfl ?_
        refine kk_goto e_X10_back_61 ?_
        exact kk_sub [1, 2, 0] rfl (hrec_5 (v2_3 + (1 : Int32)) σ_6 h)
      · intro J_7 hJ_7 h
        refine kk_icmp_eq e_X10_back_41 (fun c_9 => ?_) (fun c_9 => ?_)
        · replace h := h.1 c_9
          exact kk_sub [0, 1, 2] rfl (hJ_7 σ_4 h)
        · replace h := h.2 c_9
          refine kk_aload_n 0 rfl e_X10_back_44 ?_
          refine kk_getr e_X10_back_45 fl_X10_21 rfl rfl ?_
          refine kk_iload_n 2 rfl e_X10_back_48 ?_
          refine kk_aload_n 0 rfl e_X10_back_49 ?_
          refine kk_getr e_X10_back_50 fl_X10_85 rfl rfl ?_
          refine kk_iload_n 2 rfl e_X10_back_53 ?_
          refine kk_iald e_X10_back_54 rfl h.1 ?_
          replace h := h.2
          refine kk_callVv (As := [.int v2_3, .int (kk_rd σ_4 31 v2_3)]) (rest := []) e_X10_back_55 ml_X10_134 ⟨_, _, _, _, rfl, rfl⟩ rfl (kk_fitR (by decide) (by decide)) (Nat.le_of_ble_eq_true rfl) rfl (s_X3_give Z v2_3 (kk_rd σ_4 31 v2_3) σ_4 _ h) (fun σ_8 h => ?_)
          exact kk_sub [0, 1, 2] rfl (hJ_7 σ_8 h)
  · replace h := h.2 c_11
    refine kk_iconst ic_m1 e_X10_back_7 ?_
    exact kk_iret e_X10_back_8 h
theorem e_X6_isLine_0 : kk_d cX6_isLine 0 (.iload_n 1) 1 1 := ⟨by decide +kernel, rfl⟩
theorem e_X6_isLine_1 : kk_dj cX6_isLine 1 (.ifCond .lt 15) 3 (15) 4 16 := ⟨by decide +kernel, rfl, by decide⟩
theorem e_X6_isLine_17 : kk_d cX6_isLine 17 .ireturn 1 18 := ⟨by decide +kernel, rfl⟩
theorem e_X6_isLine_16 : kk_d cX6_isLine 16 (.iconst 0) 1 17 := ⟨by decide +kernel, rfl⟩
theorem e_X6_isLine_4 : kk_d cX6_isLine 4 (.iload_n 1) 1 5 := ⟨by decide +kernel, rfl⟩
theorem e_X6_isLine_5 : kk_d cX6_isLine 5 (.aload_n 0) 1 6 := ⟨by decide +kernel, rfl⟩
theorem e_X6_isLine_6 : kk_d cX6_isLine 6 (.getfield 31) 3 9 := ⟨by decide +kernel, rfl⟩
theorem e_X6_isLine_9 : kk_dj cX6_isLine 9 (.if_icmp .ge 7) 3 (7) 12 16 := ⟨by decide +kernel, rfl, by decide⟩
theorem e_X6_isLine_12 : kk_d cX6_isLine 12 (.iconst 1) 1 13 := ⟨by decide +kernel, rfl⟩
theorem e_X6_isLine_13 : kk_dj cX6_isLine 13 (.goto 4) 3 (4) 16 17 := ⟨by decide +kernel, rfl, by decide⟩
set_option maxRecDepth 4000 in
theorem s_X6_isLine (Z : kk_Z) (v1 : Int32) (σ : kk_St) (Q : Int32 → Prop) (h : f_X6_isLine v1 σ Q) : kk_M Z sh_C yX6_isLine cX6_isLine 2 (some .boolean) (kk_R 2) [.ref (Z.2.1 1), .int v1] σ (kk_Qi Z sh_C (fun r σ' => σ' = σ ∧ Q r)) := by
  unfold f_X6_isLine at h
  refine kk_met (own := RX6) (by decide) rfl (Nat.le_of_ble_eq_true rfl) rfl ?_
  refine kk_iload_n 1 rfl e_X6_isLine_0 ?_
  refine kk_jW1 (P := fun (t_1 : Int32) => KK Z sh_C RX6 cX6_isLine 2 (some .boolean) (kk_R 2) (kk_Qi Z sh_C (fun r σ' => σ' = σ ∧ Q r)) 17 [] [.int t_1] σ) h ?_ ?_
  · intro t_1 h
    exact kk_zret e_X6_isLine_17 h.1 ⟨rfl, h.2⟩
  · intro J_2 hJ_2 h
    refine kk_jW0 (P := KK Z sh_C RX6 cX6_isLine 2 (some .boolean) (kk_R 2) (kk_Qi Z sh_C (fun r σ' => σ' = σ ∧ Q r)) 16 [] [] σ) h ?_ ?_
    · intro h
      refine kk_iconst ic_0 e_X6_isLine_16 ?_
      exact kk_sub [] rfl (hJ_2 (0 : Int32) h)
    · intro J_3 hJ_3 h
      refine kk_if_lt e_X6_isLine_1 (fun c_5 => ?_) (fun c_5 => ?_)
      · replace h := h.1 c_5
        exact kk_sub [] rfl (hJ_3 h)
      · replace h := h.2 c_5
        refine kk_iload_n 1 rfl e_X6_isLine_4 ?_
        refine kk_aload_n 0 rfl e_X6_isLine_5 ?_
        refine kk_geti e_X6_isLine_6 fl_X6_31 rfl rfl ?_
        refine kk_icmp_ge e_X6_isLine_9 (fun c_4 => ?_) (fun c_4 => ?_)
        · replace h := h.1 c_4
          exact kk_sub [] rfl (hJ_3 h)
        · replace h := h.2 c_4
          refine kk_iconst ic_1 e_X6_isLine_12 ?_
          refine kk_goto e_X6_isLine_13 ?_
          exact kk_sub [] rfl (hJ_2 (1 : Int32) h)
theorem e_X10_bare_0 : kk_d cX10_bare 0 (.aload_n 0) 1 1 := ⟨by decide +kernel, rfl⟩
theorem e_X10_bare_1 : kk_d cX10_bare 1 (.getfield 10) 3 4 := ⟨by decide +kernel, rfl⟩
theorem e_X10_bare_4 : kk_d cX10_bare 4 (.iload_n 1) 1 5 := ⟨by decide +kernel, rfl⟩
theorem e_X10_bare_5 : kk_d cX10_bare 5 (.invokevirtual 124) 3 8 := ⟨by decide +kernel, rfl⟩
theorem e_X10_bare_8 : kk_dj cX10_bare 8 (.ifCond .eq 16) 3 (16) 11 24 := ⟨by decide +kernel, rfl, by decide⟩
theorem e_X10_bare_24 : kk_d cX10_bare 24 (.iconst (-1)) 1 25 := ⟨by decide +kernel, rfl⟩
theorem e_X10_bare_25 : kk_d cX10_bare 25 .ireturn 1 26 := ⟨by decide +kernel, rfl⟩
theorem e_X10_bare_11 : kk_d cX10_bare 11 (.aload_n 0) 1 12 := ⟨by decide +kernel, rfl⟩
theorem e_X10_bare_12 : kk_d cX10_bare 12 (.getfield 21) 3 15 := ⟨by decide +kernel, rfl⟩
theorem e_X10_bare_15 : kk_d cX10_bare 15 (.getfield 137) 3 18 := ⟨by decide +kernel, rfl⟩
theorem e_X10_bare_18 : kk_d cX10_bare 18 (.iload_n 1) 1 19 := ⟨by decide +kernel, rfl⟩
theorem e_X10_bare_19 : kk_d cX10_bare 19 .iaload 1 20 := ⟨by decide +kernel, rfl⟩
theorem e_X10_bare_20 : kk_d cX10_bare 20 (.iconst (-1)) 1 21 := ⟨by decide +kernel, rfl⟩
theorem e_X10_bare_21 : kk_dj cX10_bare 21 (.if_icmp .ne 5) 3 (5) 24 26 := ⟨by decide +kernel, rfl, by decide⟩
theorem e_X10_bare_26 : kk_d cX10_bare 26 (.aload_n 0) 1 27 := ⟨by decide +kernel, rfl⟩
theorem e_X10_bare_27 : kk_d cX10_bare 27 (.getfield 21) 3 30 := ⟨by decide +kernel, rfl⟩
theorem e_X10_bare_30 : kk_d cX10_bare 30 (.getfield 137) 3 33 := ⟨by decide +kernel, rfl⟩
theorem e_X10_bare_33 : kk_d cX10_bare 33 (.iload_n 1) 1 34 := ⟨by decide +kernel, rfl⟩
theorem e_X10_bare_34 : kk_d cX10_bare 34 .iaload 1 35 := ⟨by decide +kernel, rfl⟩
theorem e_X10_bare_35 : kk_d cX10_bare 35 (.istore_n 2) 1 36 := ⟨by decide +kernel, rfl⟩
theorem e_X10_bare_36 : kk_d cX10_bare 36 (.aload_n 0) 1 37 := ⟨by decide +kernel, rfl⟩
theorem e_X10_bare_37 : kk_d cX10_bare 37 (.getfield 21) 3 40 := ⟨by decide +kernel, rfl⟩
theorem e_X10_bare_40 : kk_d cX10_bare 40 (.iload_n 1) 1 41 := ⟨by decide +kernel, rfl⟩
theorem e_X10_bare_41 : kk_d cX10_bare 41 (.invokevirtual 140) 3 44 := ⟨by decide +kernel, rfl⟩
theorem e_X10_bare_44 : kk_d cX10_bare 44 (.iload_n 2) 1 45 := ⟨by decide +kernel, rfl⟩
theorem e_X10_bare_45 : kk_d cX10_bare 45 .ireturn 1 46 := ⟨by decide +kernel, rfl⟩
set_option maxRecDepth 4000 in
theorem s_X10_bare (Z : kk_Z) (v1 : Int32) (σ : kk_St) (Q : Int32 → kk_St → Prop) (h : f_X10_bare v1 σ Q) : kk_M Z sh_C yX10_bare cX10_bare 3 (some .int) (kk_R 3) [.ref (Z.2.1 0), .int v1] σ (kk_Qi Z sh_C Q) := by
  unfold f_X10_bare at h
  refine kk_met (own := RX10) (by decide) rfl (Nat.le_of_ble_eq_true rfl) rfl ?_
  refine kk_aload_n 0 rfl e_X10_bare_0 ?_
  refine kk_getr e_X10_bare_1 fl_X10_10 rfl rfl ?_
  refine kk_iload_n 1 rfl e_X10_bare_4 ?_
  refine kk_callVip (As := [.int v1]) (rest := []) e_X10_bare_5 ml_X10_124 ⟨_, _, _, _, rfl, rfl⟩ rfl (kk_fitR (by decide) (by decide)) (Nat.le_of_ble_eq_true rfl) rfl (s_X6_isLine Z v1 σ _ h) (fun r_1 h => ?_)
  refine kk_jW0 (P := KK Z sh_C RX10 cX10_bare 3 (some .int) (kk_R 3) (kk_Qi Z sh_C Q) 24 [] [] σ) h ?_ ?_
  · intro h
    refine kk_iconst ic_m1 e_X10_bare_24 ?_
    exact kk_iret e_X10_bare_25 h
  · intro J_2 hJ_2 h
    refine kk_if_eq e_X10_bare_8 (fun c_5 => ?_) (fun c_5 => ?_)
    · replace h := h.1 c_5
      exact kk_sub [] rfl (hJ_2 h)
    · replace h := h.2 c_5
      refine kk_aload_n 0 rfl e_X10_bare_11 ?_
      refine kk_getr e_X10_bare_12 fl_X10_21 rfl rfl ?_
      refine kk_getr e_X10_bare_15 fl_X10_137 rfl rfl ?_
      refine kk_iload_n 1 rfl e_X10_bare_18 ?_
      refine kk_iald e_X10_bare_19 rfl h.1 ?_
      replace h := h.2
      refine kk_iconst ic_m1 e_X10_bare_20 ?_
      refine kk_icmp_ne e_X10_bare_21 (fun c_4 => ?_) (fun c_4 => ?_)
      · replace h := h.1 c_4
        refine kk_aload_n 0 rfl e_X10_bare_26 ?_
        refine kk_getr e_X10_bare_27 fl_X10_21 rfl rfl ?_
        refine kk_getr e_X10_bare_30 fl_X10_137 rfl rfl ?_
        refine kk_iload_n 1 rfl e_X10_bare_33 ?_
        refine kk_iald e_X10_bare_34 rfl h.1 ?_
        replace h := h.2
        refine kk_istore_n (lv' := [(2, .int (kk_rd σ 16 v1)), (0, .ref (Z.2.1 0)), (1, .int v1)]) e_X10_bare_35 rfl (by decide) rfl ?_
        refine kk_aload_n 1 rfl e_X10_bare_36 ?_
        refine kk_getr e_X10_bare_37 fl_X10_21 rfl rfl ?_
        refine kk_iload_n 2 rfl e_X10_bare_40 ?_
        refine kk_callVv (As := [.int v1]) (rest := []) e_X10_bare_41 ml_X10_140 ⟨_, _, _, _, rfl, rfl⟩ rfl (kk_fitR (by decide) (by decide)) (Nat.le_of_ble_eq_true rfl) rfl (s_X3_strip Z v1 σ _ h) (fun σ_3 h => ?_)
        refine kk_iload_n 0 rfl e_X10_bare_44 ?_
        exact kk_iret e_X10_bare_45 h
      · replace h := h.2 c_4
        exact kk_sub [] rfl (hJ_2 h)
theorem e_X6_clear_0 : kk_d cX6_clear 0 (.aload_n 0) 1 1 := ⟨by decide +kernel, rfl⟩
theorem e_X6_clear_1 : kk_d cX6_clear 1 (.iload_n 1) 1 2 := ⟨by decide +kernel, rfl⟩
theorem e_X6_clear_2 : kk_d cX6_clear 2 (.putfield 27) 3 5 := ⟨by decide +kernel, rfl⟩
theorem e_X6_clear_5 : kk_d cX6_clear 5 (.aload_n 0) 1 6 := ⟨by decide +kernel, rfl⟩
theorem e_X6_clear_6 : kk_d cX6_clear 6 (.iconst 0) 1 7 := ⟨by decide +kernel, rfl⟩
theorem e_X6_clear_7 : kk_d cX6_clear 7 (.putfield 31) 3 10 := ⟨by decide +kernel, rfl⟩
theorem e_X6_clear_10 : kk_d cX6_clear 10 (.aload_n 0) 1 11 := ⟨by decide +kernel, rfl⟩
theorem e_X6_clear_11 : kk_d cX6_clear 11 (.iconst 0) 1 12 := ⟨by decide +kernel, rfl⟩
theorem e_X6_clear_12 : kk_d cX6_clear 12 (.putfield 34) 3 15 := ⟨by decide +kernel, rfl⟩
theorem e_X6_clear_15 : kk_d cX6_clear 15 (.aload_n 0) 1 16 := ⟨by decide +kernel, rfl⟩
theorem e_X6_clear_16 : kk_d cX6_clear 16 (.getfield 21) 3 19 := ⟨by decide +kernel, rfl⟩
theorem e_X6_clear_19 : kk_d cX6_clear 19 (.iconst 0) 1 20 := ⟨by decide +kernel, rfl⟩
theorem e_X6_clear_20 : kk_d cX6_clear 20 (.invokestatic 37) 3 23 := ⟨by decide +kernel, rfl⟩
theorem e_X6_clear_23 : kk_d cX6_clear 23 (.aload_n 0) 1 24 := ⟨by decide +kernel, rfl⟩
theorem e_X6_clear_24 : kk_d cX6_clear 24 (.getfield 24) 3 27 := ⟨by decide +kernel, rfl⟩
theorem e_X6_clear_27 : kk_d cX6_clear 27 (.iconst 0) 1 28 := ⟨by decide +kernel, rfl⟩
theorem e_X6_clear_28 : kk_d cX6_clear 28 (.invokestatic 37) 3 31 := ⟨by decide +kernel, rfl⟩
theorem e_X6_clear_31 : kk_d cX6_clear 31 .return_ 1 32 := ⟨by decide +kernel, rfl⟩
set_option maxRecDepth 4000 in
theorem s_X6_clear (Z : kk_Z) (v1 : Int32) (σ : kk_St) (Q : kk_St → Prop) (h : f_X6_clear v1 σ Q) : kk_M Z sh_C yX6_clear cX6_clear 2 none (kk_R 3) [.ref (Z.2.1 1), .int v1] σ (kk_Qv Z sh_C Q) := by
  unfold f_X6_clear at h
  refine kk_met (own := RX6) (by decide) rfl (Nat.le_of_ble_eq_true rfl) rfl ?_
  refine kk_aload_n 0 rfl e_X6_clear_0 ?_
  refine kk_iload_n 1 rfl e_X6_clear_1 ?_
  refine kk_puti e_X6_clear_2 fl_X6_27 fn_X6_5 rfl rfl ?_
  refine kk_tops (fun σ_1 eσ_1 => ?_)
  replace h := h σ_1 eσ_1
  refine kk_aload_n 0 rfl e_X6_clear_5 ?_
  refine kk_iconst ic_0 e_X6_clear_6 ?_
  refine kk_puti e_X6_clear_7 fl_X6_31 fn_X6_6 rfl rfl ?_
  refine kk_tops (fun σ_2 eσ_2 => ?_)
  replace h := h σ_2 eσ_2
  refine kk_aload_n 0 rfl e_X6_clear_10 ?_
  refine kk_iconst ic_0 e_X6_clear_11 ?_
  refine kk_puti e_X6_clear_12 fl_X6_34 fn_X6_7 rfl rfl ?_
  refine kk_tops (fun σ_3 eσ_3 => ?_)
  replace h := h σ_3 eσ_3
  refine kk_aload_n 0 rfl e_X6_clear_15 ?_
  refine kk_getr e_X6_clear_16 fl_X6_21 rfl rfl ?_
  refine kk_iconst ic_0 e_X6_clear_19 ?_
  refine kk_callSv (As := [.ref (Z.2.1 14), .int (0 : Int32)]) (rest := []) e_X6_clear_20 ml_X6_37 rfl (kk_fitR (by decide) (by decide)) (Nat.le_of_ble_eq_true rfl) rfl (s_J7_fill_53178 Z 14 9 (0 : Int32) σ_3 _ rfl h) (fun σ_4 h => ?_)
  refine kk_aload_n 0 rfl e_X6_clear_23 ?_
  refine kk_getr e_X6_clear_24 fl_X6_24 rfl rfl ?_
  refine kk_iconst ic_0 e_X6_clear_27 ?_
  refine kk_callSv (As := [.ref (Z.2.1 15), .int (0 : Int32)]) (rest := []) e_X6_clear_28 ml_X6_37 rfl (kk_fitR (by decide) (by decide)) (Nat.le_of_ble_eq_true rfl) rfl (s_J7_fill_53178 Z 15 9 (0 : Int32) σ_4 _ rfl h) (fun σ_5 h => ?_)
  exact kk_vret e_X6_clear_31 h
theorem e_X7_forgetAnswer_0 : kk_d cX7_forgetAnswer 0 (.aload_n 0) 1 1 := ⟨by decide +kernel, rfl⟩
theorem e_X7_forgetAnswer_1 : kk_d cX7_forgetAnswer 1 (.iconst (-1)) 1 2 := ⟨by decide +kernel, rfl⟩
theorem e_X7_forgetAnswer_2 : kk_d cX7_forgetAnswer 2 (.putfield 21) 3 5 := ⟨by decide +kernel, rfl⟩
theorem e_X7_forgetAnswer_5 : kk_d cX7_forgetAnswer 5 .return_ 1 6 := ⟨by decide +kernel, rfl⟩
set_option maxRecDepth 4000 in
theorem s_X7_forgetAnswer (Z : kk_Z) (σ : kk_St) (Q : kk_St → Prop) (h : f_X7_forgetAnswer σ Q) : kk_M Z sh_C yX7_forgetAnswer cX7_forgetAnswer 1 none (kk_R 2) [.ref (Z.2.1 7)] σ (kk_Qv Z sh_C Q) := by
  unfold f_X7_forgetAnswer at h
  refine kk_met (own := RX7) (by decide) rfl (Nat.le_of_ble_eq_true rfl) rfl ?_
  refine kk_aload_n 0 rfl e_X7_forgetAnswer_0 ?_
  refine kk_iconst ic_m1 e_X7_forgetAnswer_1 ?_
  refine kk_puti e_X7_forgetAnswer_2 fl_X7_21 fn_X7_4 rfl rfl ?_
  refine kk_tops (fun σ_1 eσ_1 => ?_)
  replace h := h σ_1 eσ_1
  exact kk_vret e_X7_forgetAnswer_5 h
theorem e_X7_forget_0 : kk_d cX7_forget 0 (.aload_n 0) 1 1 := ⟨by decide +kernel, rfl⟩
theorem e_X7_forget_1 : kk_d cX7_forget 1 (.iconst (-1)) 1 2 := ⟨by decide +kernel, rfl⟩
theorem e_X7_forget_2 : kk_d cX7_forget 2 (.putfield 29) 3 5 := ⟨by decide +kernel, rfl⟩
theorem e_X7_forget_5 : kk_d cX7_forget 5 (.aload_n 0) 1 6 := ⟨by decide +kernel, rfl⟩
theorem e_X7_forget_6 : kk_d cX7_forget 6 (.iconst (-1)) 1 7 := ⟨by decide +kernel, rfl⟩
theorem e_X7_forget_7 : kk_d cX7_forget 7 (.putfield 32) 3 10 := ⟨by decide +kernel, rfl⟩
theorem e_X7_forget_10 : kk_d cX7_forget 10 (.aload_n 0) 1 11 := ⟨by decide +kernel, rfl⟩
theorem e_X7_forget_11 : kk_d cX7_forget 11 (.invokevirtual 39) 3 14 := ⟨by decide +kernel, rfl⟩
theorem e_X7_forget_14 : kk_d cX7_forget 14 .return_ 1 15 := ⟨by decide +kernel, rfl⟩
set_option maxRecDepth 4000 in
theorem s_X7_forget (Z : kk_Z) (σ : kk_St) (Q : kk_St → Prop) (h : f_X7_forget σ Q) : kk_M Z sh_C yX7_forget cX7_forget 1 none (kk_R 3) [.ref (Z.2.1 7)] σ (kk_Qv Z sh_C Q) := by
  unfold f_X7_forget at h
  refine kk_met (own := RX7) (by decide) rfl (Nat.le_of_ble_eq_true rfl) rfl ?_
  refine kk_aload_n 0 rfl e_X7_forget_0 ?_
  refine kk_iconst ic_m1 e_X7_forget_1 ?_
  refine kk_puti e_X7_forget_2 fl_X7_29 fn_X7_6 rfl rfl ?_
  refine kk_tops (fun σ_1 eσ_1 => ?_)
  replace h := h σ_1 eσ_1
  refine kk_aload_n 0 rfl e_X7_forget_5 ?_
  refine kk_iconst ic_m1 e_X7_forget_6 ?_
  refine kk_puti e_X7_forget_7 fl_X7_32 fn_X7_7 rfl rfl ?_
  refine kk_tops (fun σ_2 eσ_2 => ?_)
  replace h := h σ_2 eσ_2
  refine kk_aload_n 0 rfl e_X7_forget_10 ?_
  refine kk_callVv (As := []) (rest := []) e_X7_forget_11 ml_X7_39 ⟨_, _, _, _, rfl, rfl⟩ rfl (kk_fitR (by decide) (by decide)) (Nat.le_of_ble_eq_true rfl) rfl (s_X7_forgetAnswer Z σ_2 _ h) (fun σ_3 h => ?_)
  exact kk_vret e_X7_forget_14 h
theorem e_X10_begin_0 : kk_d cX10_begin 0 (.iload_n 1) 1 1 := ⟨by decide +kernel, rfl⟩
theorem e_X10_begin_1 : kk_d cX10_begin 1 (.iconst 1) 1 2 := ⟨by decide +kernel, rfl⟩
theorem e_X10_begin_2 : kk_dj cX10_begin 2 (.if_icmp .lt 9) 3 (9) 5 11 := ⟨by decide +kernel, rfl, by decide⟩
theorem e_X10_begin_11 : kk_d cX10_begin 11 (.iconst 0) 1 12 := ⟨by decide +kernel, rfl⟩
theorem e_X10_begin_12 : kk_d cX10_begin 12 .ireturn 1 13 := ⟨by decide +kernel, rfl⟩
theorem e_X10_begin_5 : kk_d cX10_begin 5 (.iload_n 1) 1 6 := ⟨by decide +kernel, rfl⟩
theorem e_X10_begin_6 : kk_d cX10_begin 6 (.bipush 9) 2 8 := ⟨by decide +kernel, rfl⟩
theorem e_X10_begin_8 : kk_dj cX10_begin 8 (.if_icmp .le 5) 3 (5) 11 13 := ⟨by decide +kernel, rfl, by decide⟩
theorem e_X10_begin_13 : kk_d cX10_begin 13 (.aload_n 0) 1 14 := ⟨by decide +kernel, rfl⟩
theorem e_X10_begin_14 : kk_d cX10_begin 14 (.getfield 10) 3 17 := ⟨by decide +kernel, rfl⟩
theorem e_X10_begin_17 : kk_d cX10_begin 17 (.iload_n 1) 1 18 := ⟨by decide +kernel, rfl⟩
theorem e_X10_begin_18 : kk_d cX10_begin 18 (.invokevirtual 96) 3 21 := ⟨by decide +kernel, rfl⟩
theorem e_X10_begin_21 : kk_d cX10_begin 21 (.aload_n 0) 1 22 := ⟨by decide +kernel, rfl⟩
theorem e_X10_begin_22 : kk_d cX10_begin 22 (.getfield 21) 3 25 := ⟨by decide +kernel, rfl⟩
theorem e_X10_begin_25 : kk_d cX10_begin 25 (.invokevirtual 100) 3 28 := ⟨by decide +kernel, rfl⟩
theorem e_X10_begin_28 : kk_d cX10_begin 28 (.aload_n 0) 1 29 := ⟨by decide +kernel, rfl⟩
theorem e_X10_begin_29 : kk_d cX10_begin 29 (.getfield 39) 3 32 := ⟨by decide +kernel, rfl⟩
theorem e_X10_begin_32 : kk_d cX10_begin 32 (.iconst 0) 1 33 := ⟨by decide +kernel, rfl⟩
theorem e_X10_begin_33 : kk_d cX10_begin 33 (.putfield 102) 3 36 := ⟨by decide +kernel, rfl⟩
theorem e_X10_begin_36 : kk_d cX10_begin 36 (.aload_n 0) 1 37 := ⟨by decide +kernel, rfl⟩
theorem e_X10_begin_37 : kk_d cX10_begin 37 (.getfield 60) 3 40 := ⟨by decide +kernel, rfl⟩
theorem e_X10_begin_40 : kk_d cX10_begin 40 (.invokevirtual 105) 3 43 := ⟨by decide +kernel, rfl⟩
theorem e_X10_begin_43 : kk_d cX10_begin 43 (.aload_n 0) 1 44 := ⟨by decide +kernel, rfl⟩
theorem e_X10_begin_44 : kk_d cX10_begin 44 (.iconst 0) 1 45 := ⟨by decide +kernel, rfl⟩
theorem e_X10_begin_45 : kk_d cX10_begin 45 (.putfield 92) 3 48 := ⟨by decide +kernel, rfl⟩
theorem e_X10_begin_48 : kk_d cX10_begin 48 (.iconst 1) 1 49 := ⟨by decide +kernel, rfl⟩
theorem e_X10_begin_49 : kk_d cX10_begin 49 .ireturn 1 50 := ⟨by decide +kernel, rfl⟩
set_option maxRecDepth 4000 in
theorem s_X10_begin (Z : kk_Z) (v1 : Int32) (σ : kk_St) (Q : Int32 → kk_St → Prop) (h : f_X10_begin v1 σ Q) : kk_M Z sh_C yX10_begin cX10_begin 2 (some .boolean) (kk_R 4) [.ref (Z.2.1 0), .int v1] σ (kk_Qi Z sh_C Q) := by
  unfold f_X10_begin at h
  refine kk_met (own := RX10) (by decide) rfl (Nat.le_of_ble_eq_true rfl) rfl ?_
  refine kk_iload_n 1 rfl e_X10_begin_0 ?_
  refine kk_iconst ic_1 e_X10_begin_1 ?_
  refine kk_jW0 (P := KK Z sh_C RX10 cX10_begin 2 (some .boolean) (kk_R 4) (kk_Qi Z sh_C Q) 11 [] [] σ) h ?_ ?_
  · intro h
    refine kk_iconst ic_0 e_X10_begin_11 ?_
    exact kk_zret e_X10_begin_12 (Or.inl rfl) h
  · intro J_1 hJ_1 h
    refine kk_icmp_lt e_X10_begin_2 (fun c_8 => ?_) (fun c_8 => ?_)
    · replace h := h.1 c_8
      exact kk_sub [] rfl (hJ_1 h)
    · replace h := h.2 c_8
      refine kk_iload_n 1 rfl e_X10_begin_5 ?_
      refine kk_bipush bp_9 e_X10_begin_6 ?_
      refine kk_icmp_le e_X10_begin_8 (fun c_7 => ?_) (fun c_7 => ?_)
      · replace h := h.1 c_7
        refine kk_aload_n 0 rfl e_X10_begin_13 ?_
        refine kk_getr e_X10_begin_14 fl_X10_10 rfl rfl ?_
        refine kk_iload_n 1 rfl e_X10_begin_17 ?_
        refine kk_callVv (As := [.int v1]) (rest := []) e_X10_begin_18 ml_X10_96 ⟨_, _, _, _, rfl, rfl⟩ rfl (kk_fitR (by decide) (by decide)) (Nat.le_of_ble_eq_true rfl) rfl (s_X6_clear Z v1 σ _ h) (fun σ_2 h => ?_)
        refine kk_aload_n 0 rfl e_X10_begin_21 ?_
        refine kk_getr e_X10_begin_22 fl_X10_21 rfl rfl ?_
        refine kk_callVv (As := []) (rest := []) e_X10_begin_25 ml_X10_100 ⟨_, _, _, _, rfl, rfl⟩ rfl (kk_fitR (by decide) (by decide)) (Nat.le_of_ble_eq_true rfl) rfl (s_X3_clear Z σ_2 _ h) (fun σ_3 h => ?_)
        refine kk_aload_n 0 rfl e_X10_begin_28 ?_
        refine kk_getr e_X10_begin_29 fl_X10_39 rfl rfl ?_
        refine kk_iconst ic_0 e_X10_begin_32 ?_
        refine kk_putz e_X10_begin_33 fl_X10_102 fn_X5_4 (Or.inl rfl) rfl rfl ?_
        refine kk_tops (fun σ_4 eσ_4 => ?_)
        replace h := h σ_4 eσ_4
        refine kk_aload_n 0 rfl e_X10_begin_36 ?_
        refine kk_getr e_X10_begin_37 fl_X10_60 rfl rfl ?_
        refine kk_callVv (As := []) (rest := []) e_X10_begin_40 ml_X10_105 ⟨_, _, _, _, rfl, rfl⟩ rfl (kk_fitR (by decide) (by decide)) (Nat.le_of_ble_eq_true rfl) rfl (s_X7_forget Z σ_4 _ h) (fun σ_5 h => ?_)
        refine kk_aload_n 0 rfl e_X10_begin_43 ?_
        refine kk_iconst ic_0 e_X10_begin_44 ?_
        refine kk_putz e_X10_begin_45 fl_X10_92 fn_X10_12 (Or.inl rfl) rfl rfl ?_
        refine kk_tops (fun σ_6 eσ_6 => ?_)
        replace h := h σ_6 eσ_6
        refine kk_iconst ic_1 e_X10_begin_48 ?_
        exact kk_zret e_X10_begin_49 (Or.inr rfl) h
      · replace h := h.2 c_7
        exact kk_sub [] rfl (hJ_1 h)
theorem e_X10_greatestBit_0 : kk_d cX10_greatestBit 0 (.bipush 31) 2 2 := ⟨by decide +kernel, rfl⟩
theorem e_X10_greatestBit_2 : kk_d cX10_greatestBit 2 (.iload_n 0) 1 3 := ⟨by decide +kernel, rfl⟩
theorem e_X10_greatestBit_3 : kk_d cX10_greatestBit 3 (.invokestatic 350) 3 6 := ⟨by decide +kernel, rfl⟩
theorem e_X10_greatestBit_6 : kk_d cX10_greatestBit 6 .isub 1 7 := ⟨by decide +kernel, rfl⟩
theorem e_X10_greatestBit_7 : kk_d cX10_greatestBit 7 .ireturn 1 8 := ⟨by decide +kernel, rfl⟩
set_option maxRecDepth 4000 in
theorem s_X10_greatestBit (Z : kk_Z) (v0 : Int32) (σ : kk_St) (Q : Int32 → Prop) (h : f_X10_greatestBit v0 Q) : kk_M Z sh_C yX10_greatestBit cX10_greatestBit 1 (some .int) (kk_R 3) [.int v0] σ (kk_Qi Z sh_C (fun r σ' => σ' = σ ∧ Q r)) := by
  unfold f_X10_greatestBit at h
  refine kk_met (own := RX10) (by decide) rfl (Nat.le_of_ble_eq_true rfl) rfl ?_
  refine kk_bipush bp_31 e_X10_greatestBit_0 ?_
  refine kk_iload_n 0 rfl e_X10_greatestBit_2 ?_
  refine kk_callSip (As := [.int v0]) (rest := [.int (31 : Int32)]) e_X10_greatestBit_3 ml_X10_350 rfl (kk_fitR (by decide) (by decide)) (Nat.le_of_ble_eq_true rfl) rfl (s_J6_numberOfLeadingZeros_0f7a4 Z v0 σ _ h) (fun r_1 h => ?_)
  refine kk_isub e_X10_greatestBit_6 ?_
  exact kk_iret e_X10_greatestBit_7 ⟨rfl, h⟩
theorem e_X10_idleOf_0 : kk_d cX10_idleOf 0 (.iload_n 0) 1 1 := ⟨by decide +kernel, rfl⟩
theorem e_X10_idleOf_1 : kk_dj cX10_idleOf 1 (.ifCond .ne 5) 3 (5) 4 6 := ⟨by decide +kernel, rfl, by decide⟩
theorem e_X10_idleOf_6 : kk_d cX10_idleOf 6 (.iload_n 0) 1 7 := ⟨by decide +kernel, rfl⟩
theorem e_X10_idleOf_7 : kk_d cX10_idleOf 7 (.invokestatic 218) 3 10 := ⟨by decide +kernel, rfl⟩
theorem e_X10_idleOf_10 : kk_d cX10_idleOf 10 (.iload_n 0) 1 11 := ⟨by decide +kernel, rfl⟩
theorem e_X10_idleOf_11 : kk_d cX10_idleOf 11 (.invokestatic 288) 3 14 := ⟨by decide +kernel, rfl⟩
theorem e_X10_idleOf_14 : kk_d cX10_idleOf 14 .isub 1 15 := ⟨by decide +kernel, rfl⟩
theorem e_X10_idleOf_15 : kk_d cX10_idleOf 15 (.iload_n 0) 1 16 := ⟨by decide +kernel, rfl⟩
theorem e_X10_idleOf_16 : kk_d cX10_idleOf 16 (.invokestatic 155) 3 19 := ⟨by decide +kernel, rfl⟩
theorem e_X10_idleOf_19 : kk_d cX10_idleOf 19 .isub 1 20 := ⟨by decide +kernel, rfl⟩
theorem e_X10_idleOf_20 : kk_d cX10_idleOf 20 (.iconst 1) 1 21 := ⟨by decide +kernel, rfl⟩
theorem e_X10_idleOf_21 : kk_d cX10_idleOf 21 .iadd 1 22 := ⟨by decide +kernel, rfl⟩
theorem e_X10_idleOf_22 : kk_d cX10_idleOf 22 .ireturn 1 23 := ⟨by decide +kernel, rfl⟩
theorem e_X10_idleOf_4 : kk_d cX10_idleOf 4 (.iconst 0) 1 5 := ⟨by decide +kernel, rfl⟩
theorem e_X10_idleOf_5 : kk_d cX10_idleOf 5 .ireturn 1 6 := ⟨by decide +kernel, rfl⟩
set_option maxRecDepth 4000 in
theorem s_X10_idleOf (Z : kk_Z) (v0 : Int32) (σ : kk_St) (Q : Int32 → Prop) (h : f_X10_idleOf v0 Q) : kk_M Z sh_C yX10_idleOf cX10_idleOf 1 (some .int) (kk_R 4) [.int v0] σ (kk_Qi Z sh_C (fun r σ' => σ' = σ ∧ Q r)) := by
  unfold f_X10_idleOf at h
  refine kk_met (own := RX10) (by decide) rfl (Nat.le_of_ble_eq_true rfl) rfl ?_
  refine kk_iload_n 0 rfl e_X10_idleOf_0 ?_
  refine kk_if_ne e_X10_idleOf_1 (fun c_4 => ?_) (fun c_4 => ?_)
  · replace h := h.1 c_4
    refine kk_iload_n 0 rfl e_X10_idleOf_6 ?_
    refine kk_callSip (As := [.int v0]) (rest := []) e_X10_idleOf_7 ml_X10_218 rfl (kk_fitR (by decide) (by decide)) (Nat.le_of_ble_eq_true rfl) rfl (s_X10_greatestBit Z v0 σ _ h) (fun r_1 h => ?_)
    refine kk_iload_n 0 rfl e_X10_idleOf_10 ?_
    refine kk_callSip (As := [.int v0]) (rest := [.int r_1]) e_X10_idleOf_11 ml_X10_288 rfl (kk_fitR (by decide) (by decide)) (Nat.le_of_ble_eq_true rfl) rfl (s_J6_numberOfTrailingZeros_0f7a4 Z v0 σ _ h) (fun r_2 h => ?_)
    refine kk_isub e_X10_idleOf_14 ?_
    refine kk_iload_n 0 rfl e_X10_idleOf_15 ?_
    refine kk_callSip (As := [.int v0]) (rest := [.int (r_1 - r_2)]) e_X10_idleOf_16 ml_X10_155 rfl (kk_fitR (by decide) (by decide)) (Nat.le_of_ble_eq_true rfl) rfl (s_J6_bitCount_0f7a4 Z v0 σ _ h) (fun r_3 h => ?_)
    refine kk_isub e_X10_idleOf_19 ?_
    refine kk_iconst ic_1 e_X10_idleOf_20 ?_
    refine kk_iadd e_X10_idleOf_21 ?_
    exact kk_iret e_X10_idleOf_22 ⟨rfl, h⟩
  · replace h := h.2 c_4
    refine kk_iconst ic_0 e_X10_idleOf_4 ?_
    exact kk_iret e_X10_idleOf_5 ⟨rfl, h⟩
theorem e_X3_coloursAt_0 : kk_d cX3_coloursAt 0 (.iconst 0) 1 1 := ⟨by decide +kernel, rfl⟩
theorem e_X3_coloursAt_1 : kk_d cX3_coloursAt 1 (.istore_n 2) 1 2 := ⟨by decide +kernel, rfl⟩
theorem e_X3_coloursAt_2 : kk_d cX3_coloursAt 2 (.iconst 0) 1 3 := ⟨by decide +kernel, rfl⟩
theorem e_X3_coloursAt_3 : kk_d cX3_coloursAt 3 (.istore_n 3) 1 4 := ⟨by decide +kernel, rfl⟩
theorem e_X3_coloursAt_4 : kk_d cX3_coloursAt 4 (.iload_n 3) 1 5 := ⟨by decide +kernel, rfl⟩
theorem e_X3_coloursAt_5 : kk_d cX3_coloursAt 5 (.bipush 9) 2 7 := ⟨by decide +kernel, rfl⟩
theorem e_X3_coloursAt_7 : kk_dj cX3_coloursAt 7 (.if_icmp .ge 34) 3 (34) 10 41 := ⟨by decide +kernel, rfl, by decide⟩
theorem e_X3_coloursAt_41 : kk_d cX3_coloursAt 41 (.iload_n 2) 1 42 := ⟨by decide +kernel, rfl⟩
theorem e_X3_coloursAt_42 : kk_d cX3_coloursAt 42 .ireturn 1 43 := ⟨by decide +kernel, rfl⟩
theorem e_X3_coloursAt_10 : kk_d cX3_coloursAt 10 (.aload_n 0) 1 11 := ⟨by decide +kernel, rfl⟩
theorem e_X3_coloursAt_11 : kk_d cX3_coloursAt 11 (.getfield 15) 3 14 := ⟨by decide +kernel, rfl⟩
theorem e_X3_coloursAt_14 : kk_d cX3_coloursAt 14 (.iload_n 3) 1 15 := ⟨by decide +kernel, rfl⟩
theorem e_X3_coloursAt_15 : kk_d cX3_coloursAt 15 .iaload 1 16 := ⟨by decide +kernel, rfl⟩
theorem e_X3_coloursAt_16 : kk_d cX3_coloursAt 16 (.aload_n 0) 1 17 := ⟨by decide +kernel, rfl⟩
theorem e_X3_coloursAt_17 : kk_d cX3_coloursAt 17 (.getfield 18) 3 20 := ⟨by decide +kernel, rfl⟩
theorem e_X3_coloursAt_20 : kk_d cX3_coloursAt 20 (.getfield 60) 3 23 := ⟨by decide +kernel, rfl⟩
theorem e_X3_coloursAt_23 : kk_d cX3_coloursAt 23 (.iload_n 1) 1 24 := ⟨by decide +kernel, rfl⟩
theorem e_X3_coloursAt_24 : kk_d cX3_coloursAt 24 .iaload 1 25 := ⟨by decide +kernel, rfl⟩
theorem e_X3_coloursAt_25 : kk_d cX3_coloursAt 25 .iand 1 26 := ⟨by decide +kernel, rfl⟩
theorem e_X3_coloursAt_26 : kk_dj cX3_coloursAt 26 (.ifCond .eq 9) 3 (9) 29 35 := ⟨by decide +kernel, rfl, by decide⟩
theorem e_X3_coloursAt_35 : kk_d cX3_coloursAt 35 (.iinc 3 1) 3 38 := ⟨by decide +kernel, rfl⟩
theorem e_X3_coloursAt_38 : kk_dj cX3_coloursAt 38 (.goto (-34)) 3 (-34) 41 4 := ⟨by decide +kernel, rfl, by decide⟩
theorem e_X3_coloursAt_29 : kk_d cX3_coloursAt 29 (.iload_n 2) 1 30 := ⟨by decide +kernel, rfl⟩
theorem e_X3_coloursAt_30 : kk_d cX3_coloursAt 30 (.iconst 1) 1 31 := ⟨by decide +kernel, rfl⟩
theorem e_X3_coloursAt_31 : kk_d cX3_coloursAt 31 (.iload_n 3) 1 32 := ⟨by decide +kernel, rfl⟩
theorem e_X3_coloursAt_32 : kk_d cX3_coloursAt 32 .ishl 1 33 := ⟨by decide +kernel, rfl⟩
theorem e_X3_coloursAt_33 : kk_d cX3_coloursAt 33 .ior 1 34 := ⟨by decide +kernel, rfl⟩
theorem e_X3_coloursAt_34 : kk_d cX3_coloursAt 34 (.istore_n 2) 1 35 := ⟨by decide +kernel, rfl⟩
set_option maxRecDepth 4000 in
theorem s_X3_coloursAt (Z : kk_Z) (v1 : Int32) (σ : kk_St) (Q : Int32 → Prop) (h : f_X3_coloursAt v1 σ Q) : kk_M Z sh_C yX3_coloursAt cX3_coloursAt 4 (some .int) (kk_R 2) [.ref (Z.2.1 2), .int v1] σ (kk_Qi Z sh_C (fun r σ' => σ' = σ ∧ Q r)) := by
  unfold f_X3_coloursAt at h
  refine kk_met (own := RX3) (by decide) rfl (Nat.le_of_ble_eq_true rfl) rfl ?_
  refine kk_iconst ic_0 e_X3_coloursAt_0 ?_
  refine kk_istore_n (lv' := [(2, .int (0 : Int32)), (0, .ref (Z.2.1 2)), (1, .int v1)]) e_X3_coloursAt_1 rfl (by decide) rfl ?_
  refine kk_iconst ic_0 e_X3_coloursAt_2 ?_
  refine kk_istore_n (lv' := [(3, .int (0 : Int32)), (2, .int (0 : Int32)), (0, .ref (Z.2.1 2)), (1, .int v1)]) e_X3_coloursAt_3 rfl (by decide) rfl ?_
  refine kk_sub [2, 3, 1, 0] rfl ?_
  refine kk_lpW2 (P := fun (v2_1 : Int32) (v3_2 : Int32) => KK Z sh_C RX3 cX3_coloursAt 4 (some .int) (kk_R 2) (kk_Qi Z sh_C (fun r σ' => σ' = σ ∧ Q r)) 4 [(0, .ref (Z.2.1 2)), (1, .int v1), (2, .int v2_1), (3, .int v3_2)] [] σ) ?_ h
  intro rec_3 hrec_3 v2_1 v3_2 h
  refine kk_iload_n 3 rfl e_X3_coloursAt_4 ?_
  refine kk_bipush bp_9 e_X3_coloursAt_5 ?_
  refine kk_icmp_ge e_X3_coloursAt_7 (fun c_8 => ?_) (fun c_8 => ?_)
  · replace h := h.1 c_8
    refine kk_iload_n 2 rfl e_X3_coloursAt_41 ?_
    exact kk_iret e_X3_coloursAt_42 ⟨rfl, h⟩
  · replace h := h.2 c_8
    refine kk_aload_n 0 rfl e_X3_coloursAt_10 ?_
    refine kk_getr e_X3_coloursAt_11 fl_X3_15 rfl rfl ?_
    refine kk_iload_n 3 rfl e_X3_coloursAt_14 ?_
    refine kk_iald e_X3_coloursAt_15 rfl h.1 ?_
    replace h := h.2
    refine kk_aload_n 0 rfl e_X3_coloursAt_16 ?_
    refine kk_getr e_X3_coloursAt_17 fl_X3_18 rfl rfl ?_
    refine kk_getr e_X3_coloursAt_20 fl_X3_60 rfl rfl ?_
    refine kk_iload_n 1 rfl e_X3_coloursAt_23 ?_
    refine kk_iald e_X3_coloursAt_24 rfl h.1 ?_
    replace h := h.2
    refine kk_iand e_X3_coloursAt_25 ?_
    refine kk_jW1 (P := fun (v2_4 : Int32) => KK Z sh_C RX3 cX3_coloursAt 4 (some .int) (kk_R 2) (kk_Qi Z sh_C (fun r σ' => σ' = σ ∧ Q r)) 35 [(0, .ref (Z.2.1 2)), (1, .int v1), (2, .int v2_4), (3, .int v3_2)] [] σ) h ?_ ?_
    · intro v2_4 h
      refine kk_iinc (lv' := [(3, .int (v3_2 + (1 : Int32))), (0, .ref (Z.2.1 2)), (1, .int v1), (2, .int v2_4)]) e_X3_coloursAt_35 (j := 3) rfl (ii_1 v3_2) (by decide) rfl ?_
      refine kk_goto e_X3_coloursAt_38 ?_
      exact kk_sub [1, 2, 3, 0] rfl (hrec_3 v2_4 (v3_2 + (1 : Int32)) h)
    · intro J_5 hJ_5 h
      refine kk_if_eq e_X3_coloursAt_26 (fun c_7 => ?_) (fun c_7 => ?_)
      · replace h := h.1 c_7
        exact kk_sub [0, 1, 2, 3] rfl (hJ_5 v2_1 h)
      · replace h := h.2 c_7
        refine kk_iload_n 2 rfl e_X3_coloursAt_29 ?_
        refine kk_iconst ic_1 e_X3_coloursAt_30 ?_
        refine kk_iload_n 3 rfl e_X3_coloursAt_31 ?_
        refine kk_ishl e_X3_coloursAt_32 ?_
        refine kk_ior e_X3_coloursAt_33 ?_
        refine kk_topi (fun v2_6 ev2_6 => ?_)
        replace h := h v2_6 ev2_6
        refine kk_istore_n (lv' := [(2, .int v2_6), (0, .ref (Z.2.1 2)), (1, .int v1), (3, .int v3_2)]) e_X3_coloursAt_34 rfl (by decide) rfl ?_
        exact kk_sub [1, 2, 0, 3] rfl (hJ_5 v2_6 h)
theorem e_X1_idleOfAll_0 : kk_d cX1_idleOfAll 0 (.iconst 0) 1 1 := ⟨by decide +kernel, rfl⟩
theorem e_X1_idleOfAll_1 : kk_d cX1_idleOfAll 1 (.istore_n 3) 1 2 := ⟨by decide +kernel, rfl⟩
theorem e_X1_idleOfAll_2 : kk_d cX1_idleOfAll 2 (.iconst 0) 1 3 := ⟨by decide +kernel, rfl⟩
theorem e_X1_idleOfAll_3 : kk_d cX1_idleOfAll 3 (.istore 4) 2 5 := ⟨by decide +kernel, rfl⟩
theorem e_X1_idleOfAll_5 : kk_d cX1_idleOfAll 5 (.iload 4) 2 7 := ⟨by decide +kernel, rfl⟩
theorem e_X1_idleOfAll_7 : kk_d cX1_idleOfAll 7 (.aload_n 0) 1 8 := ⟨by decide +kernel, rfl⟩
theorem e_X1_idleOfAll_8 : kk_d cX1_idleOfAll 8 (.getfield 19) 3 11 := ⟨by decide +kernel, rfl⟩
theorem e_X1_idleOfAll_11 : kk_d cX1_idleOfAll 11 (.getfield 27) 3 14 := ⟨by decide +kernel, rfl⟩
theorem e_X1_idleOfAll_14 : kk_dj cX1_idleOfAll 14 (.if_icmp .ge 68) 3 (68) 17 82 := ⟨by decide +kernel, rfl, by decide⟩
theorem e_X1_idleOfAll_82 : kk_d cX1_idleOfAll 82 (.iload_n 3) 1 83 := ⟨by decide +kernel, rfl⟩
theorem e_X1_idleOfAll_83 : kk_d cX1_idleOfAll 83 .ireturn 1 84 := ⟨by decide +kernel, rfl⟩
theorem e_X1_idleOfAll_17 : kk_d cX1_idleOfAll 17 (.aload_n 0) 1 18 := ⟨by decide +kernel, rfl⟩
theorem e_X1_idleOfAll_18 : kk_d cX1_idleOfAll 18 (.getfield 23) 3 21 := ⟨by decide +kernel, rfl⟩
theorem e_X1_idleOfAll_21 : kk_d cX1_idleOfAll 21 (.iload 4) 2 23 := ⟨by decide +kernel, rfl⟩
theorem e_X1_idleOfAll_23 : kk_d cX1_idleOfAll 23 (.invokevirtual 32) 3 26 := ⟨by decide +kernel, rfl⟩
theorem e_X1_idleOfAll_26 : kk_d cX1_idleOfAll 26 (.istore 5) 2 28 := ⟨by decide +kernel, rfl⟩
theorem e_X1_idleOfAll_28 : kk_d cX1_idleOfAll 28 (.iload 5) 2 30 := ⟨by decide +kernel, rfl⟩
theorem e_X1_idleOfAll_30 : kk_d cX1_idleOfAll 30 (.iload_n 1) 1 31 := ⟨by decide +kernel, rfl⟩
theorem e_X1_idleOfAll_31 : kk_d cX1_idleOfAll 31 .ishr 1 32 := ⟨by decide +kernel, rfl⟩
theorem e_X1_idleOfAll_32 : kk_d cX1_idleOfAll 32 (.iconst 1) 1 33 := ⟨by decide +kernel, rfl⟩
theorem e_X1_idleOfAll_33 : kk_d cX1_idleOfAll 33 .iand 1 34 := ⟨by decide +kernel, rfl⟩
theorem e_X1_idleOfAll_34 : kk_d cX1_idleOfAll 34 (.iload 5) 2 36 := ⟨by decide +kernel, rfl⟩
theorem e_X1_idleOfAll_36 : kk_d cX1_idleOfAll 36 (.iload_n 2) 1 37 := ⟨by decide +kernel, rfl⟩
theorem e_X1_idleOfAll_37 : kk_d cX1_idleOfAll 37 .ishr 1 38 := ⟨by decide +kernel, rfl⟩
theorem e_X1_idleOfAll_38 : kk_d cX1_idleOfAll 38 (.iconst 1) 1 39 := ⟨by decide +kernel, rfl⟩
theorem e_X1_idleOfAll_39 : kk_d cX1_idleOfAll 39 .iand 1 40 := ⟨by decide +kernel, rfl⟩
theorem e_X1_idleOfAll_40 : kk_dj cX1_idleOfAll 40 (.if_icmp .eq 7) 3 (7) 43 47 := ⟨by decide +kernel, rfl, by decide⟩
theorem e_X1_idleOfAll_48 : kk_d cX1_idleOfAll 48 (.istore 6) 2 50 := ⟨by decide +kernel, rfl⟩
theorem e_X1_idleOfAll_50 : kk_d cX1_idleOfAll 50 (.iload_n 3) 1 51 := ⟨by decide +kernel, rfl⟩
theorem e_X1_idleOfAll_51 : kk_d cX1_idleOfAll 51 (.iload 6) 2 53 := ⟨by decide +kernel, rfl⟩
theorem e_X1_idleOfAll_53 : kk_dj cX1_idleOfAll 53 (.ifCond .eq 16) 3 (16) 56 69 := ⟨by decide +kernel, rfl, by decide⟩
theorem e_X1_idleOfAll_71 : kk_d cX1_idleOfAll 71 (.invokestatic 38) 3 74 := ⟨by decide +kernel, rfl⟩
theorem e_X1_idleOfAll_74 : kk_d cX1_idleOfAll 74 .iadd 1 75 := ⟨by decide +kernel, rfl⟩
theorem e_X1_idleOfAll_75 : kk_d cX1_idleOfAll 75 (.istore_n 3) 1 76 := ⟨by decide +kernel, rfl⟩
theorem e_X1_idleOfAll_76 : kk_d cX1_idleOfAll 76 (.iinc 4 1) 3 79 := ⟨by decide +kernel, rfl⟩
theorem e_X1_idleOfAll_79 : kk_dj cX1_idleOfAll 79 (.goto (-74)) 3 (-74) 82 5 := ⟨by decide +kernel, rfl, by decide⟩
theorem e_X1_idleOfAll_69 : kk_d cX1_idleOfAll 69 (.iload 5) 2 71 := ⟨by decide +kernel, rfl⟩
theorem e_X1_idleOfAll_56 : kk_d cX1_idleOfAll 56 (.iload 5) 2 58 := ⟨by decide +kernel, rfl⟩
theorem e_X1_idleOfAll_58 : kk_d cX1_idleOfAll 58 (.iconst 1) 1 59 := ⟨by decide +kernel, rfl⟩
theorem e_X1_idleOfAll_59 : kk_d cX1_idleOfAll 59 (.iload_n 1) 1 60 := ⟨by decide +kernel, rfl⟩
theorem e_X1_idleOfAll_60 : kk_d cX1_idleOfAll 60 .ishl 1 61 := ⟨by decide +kernel, rfl⟩
theorem e_X1_idleOfAll_61 : kk_d cX1_idleOfAll 61 (.iconst 1) 1 62 := ⟨by decide +kernel, rfl⟩
theorem e_X1_idleOfAll_62 : kk_d cX1_idleOfAll 62 (.iload_n 2) 1 63 := ⟨by decide +kernel, rfl⟩
theorem e_X1_idleOfAll_63 : kk_d cX1_idleOfAll 63 .ishl 1 64 := ⟨by decide +kernel, rfl⟩
theorem e_X1_idleOfAll_64 : kk_d cX1_idleOfAll 64 .ior 1 65 := ⟨by decide +kernel, rfl⟩
theorem e_X1_idleOfAll_65 : kk_d cX1_idleOfAll 65 .ixor 1 66 := ⟨by decide +kernel, rfl⟩
theorem e_X1_idleOfAll_66 : kk_dj cX1_idleOfAll 66 (.goto 5) 3 (5) 69 71 := ⟨by decide +kernel, rfl, by decide⟩
theorem e_X1_idleOfAll_47 : kk_d cX1_idleOfAll 47 (.iconst 0) 1 48 := ⟨by decide +kernel, rfl⟩
theorem e_X1_idleOfAll_43 : kk_d cX1_idleOfAll 43 (.iconst 1) 1 44 := ⟨by decide +kernel, rfl⟩
theorem e_X1_idleOfAll_44 : kk_dj cX1_idleOfAll 44 (.goto 4) 3 (4) 47 48 := ⟨by decide +kernel, rfl, by decide⟩
set_option maxRecDepth 4000 in
theorem s_X1_idleOfAll (Z : kk_Z) (v1 : Int32) (v2 : Int32) (σ : kk_St) (Q : Int32 → Prop) (h : f_X1_idleOfAll v1 v2 σ Q) : kk_M Z sh_C yX1_idleOfAll cX1_idleOfAll 7 (some .int) (kk_R 5) [.ref (Z.2.1 6), .int v1, .int v2] σ (kk_Qi Z sh_C (fun r σ' => σ' = σ ∧ Q r)) := by
  unfold f_X1_idleOfAll at h
  refine kk_met (own := RX1) (by decide) rfl (Nat.le_of_ble_eq_true rfl) rfl ?_
  refine kk_iconst ic_0 e_X1_idleOfAll_0 ?_
  refine kk_istore_n (lv' := [(3, .int (0 : Int32)), (0, .ref (Z.2.1 6)), (1, .int v1), (2, .int v2)]) e_X1_idleOfAll_1 rfl (by decide) rfl ?_
  refine kk_iconst ic_0 e_X1_idleOfAll_2 ?_
  refine kk_istore (lv' := [(4, .int (0 : Int32)), (3, .int (0 : Int32)), (0, .ref (Z.2.1 6)), (1, .int v1), (2, .int v2)]) e_X1_idleOfAll_3 (by decide) rfl ?_
  refine kk_sub [2, 3, 4, 1, 0] rfl ?_
  refine kk_lpW2 (P := fun (v3_1 : Int32) (v4_2 : Int32) => KK Z sh_C RX1 cX1_idleOfAll 7 (some .int) (kk_R 5) (kk_Qi Z sh_C (fun r σ' => σ' = σ ∧ Q r)) 5 [(0, .ref (Z.2.1 6)), (1, .int v1), (2, .int v2), (3, .int v3_1), (4, .int v4_2)] [] σ) ?_ h
  intro rec_3 hrec_3 v3_1 v4_2 h
  refine kk_iload 4 rfl e_X1_idleOfAll_5 ?_
  refine kk_aload_n 0 rfl e_X1_idleOfAll_7 ?_
  refine kk_getr e_X1_idleOfAll_8 fl_X1_19 rfl rfl ?_
  refine kk_geti e_X1_idleOfAll_11 fl_X1_27 rfl rfl ?_
  refine kk_icmp_ge e_X1_idleOfAll_14 (fun c_12 => ?_) (fun c_12 => ?_)
  · replace h := h.1 c_12
    refine kk_iload_n 3 rfl e_X1_idleOfAll_82 ?_
    exact kk_iret e_X1_idleOfAll_83 ⟨rfl, h⟩
  · replace h := h.2 c_12
    refine kk_aload_n 0 rfl e_X1_idleOfAll_17 ?_
    refine kk_getr e_X1_idleOfAll_18 fl_X1_23 rfl rfl ?_
    refine kk_iload 4 rfl e_X1_idleOfAll_21 ?_
    refine kk_callVip (As := [.int v4_2]) (rest := []) e_X1_idleOfAll_23 ml_X1_32 ⟨_, _, _, _, rfl, rfl⟩ rfl (kk_fitR (by decide) (by decide)) (Nat.le_of_ble_eq_true rfl) rfl (s_X3_coloursAt Z v4_2 σ _ h) (fun r_4 h => ?_)
    refine kk_istore (lv' := [(5, .int r_4), (0, .ref (Z.2.1 6)), (1, .int v1), (2, .int v2), (3, .int v3_1), (4, .int v4_2)]) e_X1_idleOfAll_26 (by decide) rfl ?_
    refine kk_iload 0 rfl e_X1_idleOfAll_28 ?_
    refine kk_iload_n 2 rfl e_X1_idleOfAll_30 ?_
    refine kk_ishr e_X1_idleOfAll_31 ?_
    refine kk_iconst ic_1 e_X1_idleOfAll_32 ?_
    refine kk_iand e_X1_idleOfAll_33 ?_
    refine kk_iload 0 rfl e_X1_idleOfAll_34 ?_
    refine kk_iload_n 3 rfl e_X1_idleOfAll_36 ?_
    refine kk_ishr e_X1_idleOfAll_37 ?_
    refine kk_iconst ic_1 e_X1_idleOfAll_38 ?_
    refine kk_iand e_X1_idleOfAll_39 ?_
    refine kk_jW1 (P := fun (t_5 : Int32) => KK Z sh_C RX1 cX1_idleOfAll 7 (some .int) (kk_R 5) (kk_Qi Z sh_C (fun r σ' => σ' = σ ∧ Q r)) 48 [(0, .ref (Z.2.1 6)), (1, .int v1), (2, .int v2), (3, .int v3_1), (4, .int v4_2), (5, .int r_4)] [.int t_5] σ) h ?_ ?_
    · intro t_5 h
      refine kk_istore (lv' := [(6, .int t_5), (0, .ref (Z.2.1 6)), (1, .int v1), (2, .int v2), (3, .int v3_1), (4, .int v4_2), (5, .int r_4)]) e_X1_idleOfAll_48 (by decide) rfl ?_
      refine kk_iload_n 4 rfl e_X1_idleOfAll_50 ?_
      refine kk_iload 0 rfl e_X1_idleOfAll_51 ?_
      refine kk_jW1 (P := fun (t_7 : Int32) => KK Z sh_C RX1 cX1_idleOfAll 7 (some .int) (kk_R 5) (kk_Qi Z sh_C (fun r σ' => σ' = σ ∧ Q r)) 71 [(0, .ref (Z.2.1 6)), (1, .int v1), (2, .int v2), (4, .int v4_2)] [.int t_7, .int v3_1] σ) h ?_ ?_
      · intro t_7 h
        refine kk_callSip (As := [.int t_7]) (rest := [.int v3_1]) e_X1_idleOfAll_71 ml_X1_38 rfl (kk_fitR (by decide) (by decide)) (Nat.le_of_ble_eq_true rfl) rfl (s_X10_idleOf Z t_7 σ _ h) (fun r_9 h => ?_)
        refine kk_iadd e_X1_idleOfAll_74 ?_
        refine kk_istore_n (lv' := [(3, .int (v3_1 + r_9)), (0, .ref (Z.2.1 6)), (1, .int v1), (2, .int v2), (4, .int v4_2)]) e_X1_idleOfAll_75 rfl (by decide) rfl ?_
        refine kk_iinc (lv' := [(4, .int (v4_2 + (1 : Int32))), (3, .int (v3_1 + r_9)), (0, .ref (Z.2.1 6)), (1, .int v1), (2, .int v2)]) e_X1_idleOfAll_76 (j := 4) rfl (ii_1 v4_2) (by decide) rfl ?_
        refine kk_goto e_X1_idleOfAll_79 ?_
        exact kk_sub [2, 3, 4, 1, 0] rfl (hrec_3 (v3_1 + r_9) (v4_2 + (1 : Int32)) h)
      · intro J_8 hJ_8 h
        refine kk_if_eq e_X1_idleOfAll_53 (fun c_10 => ?_) (fun c_10 => ?_)
        · replace h := h.1 c_10
          refine kk_iload 6 rfl e_X1_idleOfAll_69 ?_
          exact kk_sub [1, 2, 3, 5] rfl (hJ_8 r_4 h)
        · replace h := h.2 c_10
          refine kk_iload 6 rfl e_X1_idleOfAll_56 ?_
          refine kk_iconst ic_1 e_X1_idleOfAll_58 ?_
          refine kk_iload_n 2 rfl e_X1_idleOfAll_59 ?_
          refine kk_ishl e_X1_idleOfAll_60 ?_
          refine kk_iconst ic_1 e_X1_idleOfAll_61 ?_
          refine kk_iload_n 3 rfl e_X1_idleOfAll_62 ?_
          refine kk_ishl e_X1_idleOfAll_63 ?_
          refine kk_ior e_X1_idleOfAll_64 ?_
          refine kk_ixor e_X1_idleOfAll_65 ?_
          refine kk_goto e_X1_idleOfAll_66 ?_
          exact kk_sub [1, 2, 3, 5] rfl (hJ_8 (r_4 ^^^ (((1 : Int32) <<< (v1 &&& 31)) ||| ((1 : Int32) <<< (v2 &&& 31)))) h)
    · intro J_6 hJ_6 h
      refine kk_icmp_eq e_X1_idleOfAll_40 (fun c_11 => ?_) (fun c_11 => ?_)
      · replace h := h.1 c_11
        refine kk_iconst ic_0 e_X1_idleOfAll_47 ?_
        exact kk_sub [1, 2, 3, 4, 5, 0] rfl (hJ_6 (0 : Int32) h)
      · replace h := h.2 c_11
        refine kk_iconst ic_1 e_X1_idleOfAll_43 ?_
        refine kk_goto e_X1_idleOfAll_44 ?_
        exact kk_sub [1, 2, 3, 4, 5, 0] rfl (hJ_6 (1 : Int32) h)
theorem e_X3_colours_0 : kk_d cX3_colours 0 (.aload_n 0) 1 1 := ⟨by decide +kernel, rfl⟩
theorem e_X3_colours_1 : kk_d cX3_colours 1 (.getfield 18) 3 4 := ⟨by decide +kernel, rfl⟩
theorem e_X3_colours_4 : kk_d cX3_colours 4 (.getfield 28) 3 7 := ⟨by decide +kernel, rfl⟩
theorem e_X3_colours_7 : kk_d cX3_colours 7 (.iconst 1) 1 8 := ⟨by decide +kernel, rfl⟩
theorem e_X3_colours_8 : kk_d cX3_colours 8 .iadd 1 9 := ⟨by decide +kernel, rfl⟩
theorem e_X3_colours_9 : kk_d cX3_colours 9 .ireturn 1 10 := ⟨by decide +kernel, rfl⟩
set_option maxRecDepth 4000 in
theorem s_X3_colours (Z : kk_Z) (σ : kk_St) (Q : Int32 → Prop) (h : f_X3_colours σ Q) : kk_M Z sh_C yX3_colours cX3_colours 1 (some .int) (kk_R 2) [.ref (Z.2.1 2)] σ (kk_Qi Z sh_C (fun r σ' => σ' = σ ∧ Q r)) := by
  unfold f_X3_colours at h
  refine kk_met (own := RX3) (by decide) rfl (Nat.le_of_ble_eq_true rfl) rfl ?_
  refine kk_aload_n 0 rfl e_X3_colours_0 ?_
  refine kk_getr e_X3_colours_1 fl_X3_18 rfl rfl ?_
  refine kk_geti e_X3_colours_4 fl_X3_28 rfl rfl ?_
  refine kk_iconst ic_1 e_X3_colours_7 ?_
  refine kk_iadd e_X3_colours_8 ?_
  exact kk_iret e_X3_colours_9 ⟨rfl, h⟩
theorem e_X1_look_0 : kk_d cX1_look 0 (.aload_n 0) 1 1 := ⟨by decide +kernel, rfl⟩
theorem e_X1_look_1 : kk_d cX1_look 1 (.iconst 0) 1 2 := ⟨by decide +kernel, rfl⟩
theorem e_X1_look_2 : kk_d cX1_look 2 (.iconst 0) 1 3 := ⟨by decide +kernel, rfl⟩
theorem e_X1_look_3 : kk_d cX1_look 3 (.invokevirtual 43) 3 6 := ⟨by decide +kernel, rfl⟩
theorem e_X1_look_6 : kk_d cX1_look 6 (.istore_n 1) 1 7 := ⟨by decide +kernel, rfl⟩
theorem e_X1_look_7 : kk_d cX1_look 7 (.aload_n 0) 1 8 := ⟨by decide +kernel, rfl⟩
theorem e_X1_look_8 : kk_d cX1_look 8 (.iconst 0) 1 9 := ⟨by decide +kernel, rfl⟩
theorem e_X1_look_9 : kk_d cX1_look 9 (.putfield 7) 3 12 := ⟨by decide +kernel, rfl⟩
theorem e_X1_look_12 : kk_d cX1_look 12 (.iconst 0) 1 13 := ⟨by decide +kernel, rfl⟩
theorem e_X1_look_13 : kk_d cX1_look 13 (.istore_n 2) 1 14 := ⟨by decide +kernel, rfl⟩
theorem e_X1_look_14 : kk_d cX1_look 14 (.iload_n 2) 1 15 := ⟨by decide +kernel, rfl⟩
theorem e_X1_look_15 : kk_d cX1_look 15 (.aload_n 0) 1 16 := ⟨by decide +kernel, rfl⟩
theorem e_X1_look_16 : kk_d cX1_look 16 (.getfield 23) 3 19 := ⟨by decide +kernel, rfl⟩
theorem e_X1_look_19 : kk_d cX1_look 19 (.invokevirtual 47) 3 22 := ⟨by decide +kernel, rfl⟩
theorem e_X1_look_22 : kk_dj cX1_look 22 (.if_icmp .ge 65) 3 (65) 25 87 := ⟨by decide +kernel, rfl, by decide⟩
theorem e_X1_look_87 : kk_d cX1_look 87 .return_ 1 88 := ⟨by decide +kernel, rfl⟩
theorem e_X1_look_25 : kk_d cX1_look 25 (.iload_n 2) 1 26 := ⟨by decide +kernel, rfl⟩
theorem e_X1_look_26 : kk_d cX1_look 26 (.iconst 1) 1 27 := ⟨by decide +kernel, rfl⟩
theorem e_X1_look_27 : kk_d cX1_look 27 .iadd 1 28 := ⟨by decide +kernel, rfl⟩
theorem e_X1_look_28 : kk_d cX1_look 28 (.istore_n 3) 1 29 := ⟨by decide +kernel, rfl⟩
theorem e_X1_look_29 : kk_d cX1_look 29 (.iload_n 3) 1 30 := ⟨by decide +kernel, rfl⟩
theorem e_X1_look_30 : kk_d cX1_look 30 (.aload_n 0) 1 31 := ⟨by decide +kernel, rfl⟩
theorem e_X1_look_31 : kk_d cX1_look 31 (.getfield 23) 3 34 := ⟨by decide +kernel, rfl⟩
theorem e_X1_look_34 : kk_d cX1_look 34 (.invokevirtual 47) 3 37 := ⟨by decide +kernel, rfl⟩
theorem e_X1_look_37 : kk_dj cX1_look 37 (.if_icmp .ge 44) 3 (44) 40 81 := ⟨by decide +kernel, rfl, by decide⟩
theorem e_X1_look_81 : kk_d cX1_look 81 (.iinc 2 1) 3 84 := ⟨by decide +kernel, rfl⟩
theorem e_X1_look_84 : kk_dj cX1_look 84 (.goto (-70)) 3 (-70) 87 14 := ⟨by decide +kernel, rfl, by decide⟩
theorem e_X1_look_40 : kk_d cX1_look 40 (.iload_n 1) 1 41 := ⟨by decide +kernel, rfl⟩
theorem e_X1_look_41 : kk_d cX1_look 41 (.aload_n 0) 1 42 := ⟨by decide +kernel, rfl⟩
theorem e_X1_look_42 : kk_d cX1_look 42 (.iload_n 2) 1 43 := ⟨by decide +kernel, rfl⟩
theorem e_X1_look_43 : kk_d cX1_look 43 (.iload_n 3) 1 44 := ⟨by decide +kernel, rfl⟩
theorem e_X1_look_44 : kk_d cX1_look 44 (.invokevirtual 43) 3 47 := ⟨by decide +kernel, rfl⟩
theorem e_X1_look_47 : kk_d cX1_look 47 .isub 1 48 := ⟨by decide +kernel, rfl⟩
theorem e_X1_look_48 : kk_d cX1_look 48 (.istore 4) 2 50 := ⟨by decide +kernel, rfl⟩
theorem e_X1_look_50 : kk_d cX1_look 50 (.iload 4) 2 52 := ⟨by decide +kernel, rfl⟩
theorem e_X1_look_52 : kk_d cX1_look 52 (.aload_n 0) 1 53 := ⟨by decide +kernel, rfl⟩
theorem e_X1_look_53 : kk_d cX1_look 53 (.getfield 7) 3 56 := ⟨by decide +kernel, rfl⟩
theorem e_X1_look_56 : kk_dj cX1_look 56 (.if_icmp .le 19) 3 (19) 59 75 := ⟨by decide +kernel, rfl, by decide⟩
theorem e_X1_look_75 : kk_d cX1_look 75 (.iinc 3 1) 3 78 := ⟨by decide +kernel, rfl⟩
theorem e_X1_look_78 : kk_dj cX1_look 78 (.goto (-49)) 3 (-49) 81 29 := ⟨by decide +kernel, rfl, by decide⟩
theorem e_X1_look_59 : kk_d cX1_look 59 (.aload_n 0) 1 60 := ⟨by decide +kernel, rfl⟩
theorem e_X1_look_60 : kk_d cX1_look 60 (.iload 4) 2 62 := ⟨by decide +kernel, rfl⟩
theorem e_X1_look_62 : kk_d cX1_look 62 (.putfield 7) 3 65 := ⟨by decide +kernel, rfl⟩
theorem e_X1_look_65 : kk_d cX1_look 65 (.aload_n 0) 1 66 := ⟨by decide +kernel, rfl⟩
theorem e_X1_look_66 : kk_d cX1_look 66 (.iload_n 2) 1 67 := ⟨by decide +kernel, rfl⟩
theorem e_X1_look_67 : kk_d cX1_look 67 (.putfield 13) 3 70 := ⟨by decide +kernel, rfl⟩
theorem e_X1_look_70 : kk_d cX1_look 70 (.aload_n 0) 1 71 := ⟨by decide +kernel, rfl⟩
theorem e_X1_look_71 : kk_d cX1_look 71 (.iload_n 3) 1 72 := ⟨by decide +kernel, rfl⟩
theorem e_X1_look_72 : kk_d cX1_look 72 (.putfield 16) 3 75 := ⟨by decide +kernel, rfl⟩
set_option maxRecDepth 4000 in
theorem s_X1_look (Z : kk_Z) (σ : kk_St) (Q : kk_St → Prop) (h : f_X1_look σ Q) : kk_M Z sh_C yX1_look cX1_look 5 none (kk_R 6) [.ref (Z.2.1 6)] σ (kk_Qv Z sh_C Q) := by
  unfold f_X1_look at h
  refine kk_met (own := RX1) (by decide) rfl (Nat.le_of_ble_eq_true rfl) rfl ?_
  refine kk_aload_n 0 rfl e_X1_look_0 ?_
  refine kk_iconst ic_0 e_X1_look_1 ?_
  refine kk_iconst ic_0 e_X1_look_2 ?_
  refine kk_callVip (As := [.int (0 : Int32), .int (0 : Int32)]) (rest := []) e_X1_look_3 ml_X1_43 ⟨_, _, _, _, rfl, rfl⟩ rfl (kk_fitR (by decide) (by decide)) (Nat.le_of_ble_eq_true rfl) rfl (s_X1_idleOfAll Z (0 : Int32) (0 : Int32) σ _ h) (fun r_1 h => ?_)
  refine kk_istore_n (lv' := [(1, .int r_1), (0, .ref (Z.2.1 6))]) e_X1_look_6 rfl (by decide) rfl ?_
  refine kk_aload_n 1 rfl e_X1_look_7 ?_
  refine kk_iconst ic_0 e_X1_look_8 ?_
  refine kk_puti e_X1_look_9 fl_X1_7 fn_X1_2 rfl rfl ?_
  refine kk_tops (fun σ_2 eσ_2 => ?_)
  replace h := h σ_2 eσ_2
  refine kk_iconst ic_0 e_X1_look_12 ?_
  refine kk_istore_n (lv' := [(2, .int (0 : Int32)), (1, .int r_1), (0, .ref (Z.2.1 6))]) e_X1_look_13 rfl (by decide) rfl ?_
  refine kk_sub [2, 1, 0] rfl ?_
  refine kk_lpW2 (P := fun (v2_3 : Int32) (σ_4 : kk_St) => KK Z sh_C RX1 cX1_look 5 none (kk_R 6) (kk_Qv Z sh_C Q) 14 [(0, .ref (Z.2.1 6)), (1, .int r_1), (2, .int v2_3)] [] σ_4) ?_ h
  intro rec_5 hrec_5 v2_3 σ_4 h
  refine kk_iload_n 2 rfl e_X1_look_14 ?_
  refine kk_aload_n 0 rfl e_X1_look_15 ?_
  refine kk_getr e_X1_look_16 fl_X1_23 rfl rfl ?_
  refine kk_callVip (As := []) (rest := [.int v2_3]) e_X1_look_19 ml_X1_47 ⟨_, _, _, _, rfl, rfl⟩ rfl (kk_fitR (by decide) (by decide)) (Nat.le_of_ble_eq_true rfl) rfl (s_X3_colours Z σ_4 _ h) (fun r_6 h => ?_)
  refine kk_icmp_ge e_X1_look_22 (fun c_19 => ?_) (fun c_19 => ?_)
  · replace h := h.1 c_19
    exact kk_vret e_X1_look_87 h
  · replace h := h.2 c_19
    refine kk_iload_n 2 rfl e_X1_look_25 ?_
    refine kk_iconst ic_1 e_X1_look_26 ?_
    refine kk_iadd e_X1_look_27 ?_
    refine kk_istore_n (lv' := [(3, .int (v2_3 + (1 : Int32))), (0, .ref (Z.2.1 6)), (1, .int r_1), (2, .int v2_3)]) e_X1_look_28 rfl (by decide) rfl ?_
    refine kk_sub [1, 2, 3, 0] rfl ?_
    refine kk_lpW2 (P := fun (v3_7 : Int32) (σ_8 : kk_St) => KK Z sh_C RX1 cX1_look 5 none (kk_R 6) (kk_Qv Z sh_C Q) 29 [(0, .ref (Z.2.1 6)), (1, .int r_1), (2, .int v2_3), (3, .int v3_7)] [] σ_8) ?_ h
    intro rec_9 hrec_9 v3_7 σ_8 h
    refine kk_iload_n 3 rfl e_X1_look_29 ?_
    refine kk_aload_n 0 rfl e_X1_look_30 ?_
    refine kk_getr e_X1_look_31 fl_X1_23 rfl rfl ?_
    refine kk_callVip (As := []) (rest := [.int v3_7]) e_X1_look_34 ml_X1_47 ⟨_, _, _, _, rfl, rfl⟩ rfl (kk_fitR (by decide) (by decide)) (Nat.le_of_ble_eq_true rfl) rfl (s_X3_colours Z σ_8 _ h) (fun r_10 h => ?_)
    refine kk_icmp_ge e_X1_look_37 (fun c_18 => ?_) (fun c_18 => ?_)
    · replace h := h.1 c_18
      refine kk_iinc (lv' := [(2, .int (v2_3 + (1 : Int32))), (0, .ref (Z.2.1 6)), (1, .int r_1), (3, .int v3_7)]) e_X1_look_81 (j := 2) rfl (ii_1 v2_3) (by decide) rfl ?_
      refine kk_goto e_X1_look_84 ?_
      exact kk_sub [1, 2, 0] rfl (hrec_5 (v2_3 + (1 : Int32)) σ_8 h)
    · replace h := h.2 c_18
      refine kk_iload_n 1 rfl e_X1_look_40 ?_
      refine kk_aload_n 0 rfl e_X1_look_41 ?_
      refine kk_iload_n 2 rfl e_X1_look_42 ?_
      refine kk_iload_n 3 rfl e_X1_look_43 ?_
      refine kk_callVip (As := [.int v2_3, .int v3_7]) (rest := [.int r_1]) e_X1_look_44 ml_X1_43 ⟨_, _, _, _, rfl, rfl⟩ rfl (kk_fitR (by decide) (by decide)) (Nat.le_of_ble_eq_true rfl) rfl (s_X1_idleOfAll Z v2_3 v3_7 σ_8 _ h) (fun r_11 h => ?_)
      refine kk_isub e_X1_look_47 ?_
      refine kk_istore (lv' := [(4, .int (r_1 - r_11)), (0, .ref (Z.2.1 6)), (1, .int r_1), (2, .int v2_3), (3, .int v3_7)]) e_X1_look_48 (by decide) rfl ?_
      refine kk_iload 0 rfl e_X1_look_50 ?_
      refine kk_aload_n 1 rfl e_X1_look_52 ?_
      refine kk_geti e_X1_look_53 fl_X1_7 rfl rfl ?_
      refine kk_jW1 (P := fun (σ_12 : kk_St) => KK Z sh_C RX1 cX1_look 5 none (kk_R 6) (kk_Qv Z sh_C Q) 75 [(0, .ref (Z.2.1 6)), (1, .int r_1), (2, .int v2_3), (3, .int v3_7)] [] σ_12) h ?_ ?_
      · intro σ_12 h
        refine kk_iinc (lv' := [(3, .int (v3_7 + (1 : Int32))), (0, .ref (Z.2.1 6)), (1, .int r_1), (2, .int v2_3)]) e_X1_look_75 (j := 3) rfl (ii_1 v3_7) (by decide) rfl ?_
        refine kk_goto e_X1_look_78 ?_
        exact kk_sub [1, 2, 3, 0] rfl (hrec_9 (v3_7 + (1 : Int32)) σ_12 h)
      · intro J_13 hJ_13 h
        refine kk_icmp_le e_X1_look_56 (fun c_17 => ?_) (fun c_17 => ?_)
        · replace h := h.1 c_17
          exact kk_sub [1, 2, 3, 4] rfl (hJ_13 σ_8 h)
        · replace h := h.2 c_17
          refine kk_aload_n 1 rfl e_X1_look_59 ?_
          refine kk_iload 0 rfl e_X1_look_60 ?_
          refine kk_puti e_X1_look_62 fl_X1_7 fn_X1_2 rfl rfl ?_
          refine kk_tops (fun σ_14 eσ_14 => ?_)
          replace h := h σ_14 eσ_14
          refine kk_aload_n 1 rfl e_X1_look_65 ?_
          refine kk_iload_n 3 rfl e_X1_look_66 ?_
          refine kk_puti e_X1_look_67 fl_X1_13 fn_X1_3 rfl rfl ?_
          refine kk_tops (fun σ_15 eσ_15 => ?_)
          replace h := h σ_15 eσ_15
          refine kk_aload_n 1 rfl e_X1_look_70 ?_
          refine kk_iload_n 4 rfl e_X1_look_71 ?_
          refine kk_puti e_X1_look_72 fl_X1_16 fn_X1_4 rfl rfl ?_
          refine kk_tops (fun σ_16 eσ_16 => ?_)
          replace h := h σ_16 eσ_16
          exact kk_sub [1, 2, 3, 4] rfl (hJ_13 σ_16 h)
theorem e_X10_calmer_0 : kk_d cX10_calmer 0 (.iload_n 1) 1 1 := ⟨by decide +kernel, rfl⟩
theorem e_X10_calmer_1 : kk_dj cX10_calmer 1 (.ifCond .lt 8) 3 (8) 4 9 := ⟨by decide +kernel, rfl, by decide⟩
theorem e_X10_calmer_9 : kk_d cX10_calmer 9 (.iconst (-1)) 1 10 := ⟨by decide +kernel, rfl⟩
theorem e_X10_calmer_10 : kk_d cX10_calmer 10 .ireturn 1 11 := ⟨by decide +kernel, rfl⟩
theorem e_X10_calmer_4 : kk_d cX10_calmer 4 (.iload_n 1) 1 5 := ⟨by decide +kernel, rfl⟩
theorem e_X10_calmer_5 : kk_d cX10_calmer 5 (.iconst 2) 1 6 := ⟨by decide +kernel, rfl⟩
theorem e_X10_calmer_6 : kk_dj cX10_calmer 6 (.if_icmp .le 5) 3 (5) 9 11 := ⟨by decide +kernel, rfl, by decide⟩
theorem e_X10_calmer_11 : kk_d cX10_calmer 11 (.aload_n 0) 1 12 := ⟨by decide +kernel, rfl⟩
theorem e_X10_calmer_12 : kk_d cX10_calmer 12 (.getfield 53) 3 15 := ⟨by decide +kernel, rfl⟩
theorem e_X10_calmer_15 : kk_d cX10_calmer 15 (.invokevirtual 236) 3 18 := ⟨by decide +kernel, rfl⟩
theorem e_X10_calmer_18 : kk_d cX10_calmer 18 (.aload_n 0) 1 19 := ⟨by decide +kernel, rfl⟩
theorem e_X10_calmer_19 : kk_d cX10_calmer 19 (.getfield 53) 3 22 := ⟨by decide +kernel, rfl⟩
theorem e_X10_calmer_22 : kk_d cX10_calmer 22 (.getfield 239) 3 25 := ⟨by decide +kernel, rfl⟩
theorem e_X10_calmer_25 : kk_dj cX10_calmer 25 (.ifCond .gt 6) 3 (6) 28 31 := ⟨by decide +kernel, rfl, by decide⟩
theorem e_X10_calmer_31 : kk_d cX10_calmer 31 (.iload_n 1) 1 32 := ⟨by decide +kernel, rfl⟩
theorem e_X10_calmer_32 : kk_dj cX10_calmer 32 (.ifCond .ne 11) 3 (11) 35 43 := ⟨by decide +kernel, rfl, by decide⟩
theorem e_X10_calmer_43 : kk_d cX10_calmer 43 (.iload_n 1) 1 44 := ⟨by decide +kernel, rfl⟩
theorem e_X10_calmer_44 : kk_d cX10_calmer 44 (.iconst 1) 1 45 := ⟨by decide +kernel, rfl⟩
theorem e_X10_calmer_45 : kk_dj cX10_calmer 45 (.if_icmp .ne 13) 3 (13) 48 58 := ⟨by decide +kernel, rfl, by decide⟩
theorem e_X10_calmer_65 : kk_d cX10_calmer 65 .ireturn 1 66 := ⟨by decide +kernel, rfl⟩
theorem e_X10_calmer_58 : kk_d cX10_calmer 58 (.aload_n 0) 1 59 := ⟨by decide +kernel, rfl⟩
theorem e_X10_calmer_59 : kk_d cX10_calmer 59 (.getfield 53) 3 62 := ⟨by decide +kernel, rfl⟩
theorem e_X10_calmer_62 : kk_d cX10_calmer 62 (.getfield 245) 3 65 := ⟨by decide +kernel, rfl⟩
theorem e_X10_calmer_48 : kk_d cX10_calmer 48 (.aload_n 0) 1 49 := ⟨by decide +kernel, rfl⟩
theorem e_X10_calmer_49 : kk_d cX10_calmer 49 (.getfield 53) 3 52 := ⟨by decide +kernel, rfl⟩
theorem e_X10_calmer_52 : kk_d cX10_calmer 52 (.getfield 242) 3 55 := ⟨by decide +kernel, rfl⟩
theorem e_X10_calmer_55 : kk_dj cX10_calmer 55 (.goto 10) 3 (10) 58 65 := ⟨by decide +kernel, rfl, by decide⟩
theorem e_X10_calmer_35 : kk_d cX10_calmer 35 (.aload_n 0) 1 36 := ⟨by decide +kernel, rfl⟩
theorem e_X10_calmer_36 : kk_d cX10_calmer 36 (.getfield 53) 3 39 := ⟨by decide +kernel, rfl⟩
theorem e_X10_calmer_39 : kk_d cX10_calmer 39 (.getfield 239) 3 42 := ⟨by decide +kernel, rfl⟩
theorem e_X10_calmer_42 : kk_d cX10_calmer 42 .ireturn 1 43 := ⟨by decide +kernel, rfl⟩
theorem e_X10_calmer_28 : kk_d cX10_calmer 28 (.bipush (-2)) 2 30 := ⟨by decide +kernel, rfl⟩
theorem e_X10_calmer_30 : kk_d cX10_calmer 30 .ireturn 1 31 := ⟨by decide +kernel, rfl⟩
set_option maxRecDepth 4000 in
theorem s_X10_calmer (Z : kk_Z) (v1 : Int32) (σ : kk_St) (Q : Int32 → kk_St → Prop) (h : f_X10_calmer v1 σ Q) : kk_M Z sh_C yX10_calmer cX10_calmer 2 (some .int) (kk_R 7) [.ref (Z.2.1 0), .int v1] σ (kk_Qi Z sh_C Q) := by
  unfold f_X10_calmer at h
  refine kk_met (own := RX10) (by decide) rfl (Nat.le_of_ble_eq_true rfl) rfl ?_
  refine kk_iload_n 1 rfl e_X10_calmer_0 ?_
  refine kk_jW0 (P := KK Z sh_C RX10 cX10_calmer 2 (some .int) (kk_R 7) (kk_Qi Z sh_C Q) 9 [] [] σ) h ?_ ?_
  · intro h
    refine kk_iconst ic_m1 e_X10_calmer_9 ?_
    exact kk_iret e_X10_calmer_10 h
  · intro J_1 hJ_1 h
    refine kk_if_lt e_X10_calmer_1 (fun c_9 => ?_) (fun c_9 => ?_)
    · replace h := h.1 c_9
      exact kk_sub [] rfl (hJ_1 h)
    · replace h := h.2 c_9
      refine kk_iload_n 1 rfl e_X10_calmer_4 ?_
      refine kk_iconst ic_2 e_X10_calmer_5 ?_
      refine kk_icmp_le e_X10_calmer_6 (fun c_8 => ?_) (fun c_8 => ?_)
      · replace h := h.1 c_8
        refine kk_aload_n 0 rfl e_X10_calmer_11 ?_
        refine kk_getr e_X10_calmer_12 fl_X10_53 rfl rfl ?_
        refine kk_callVv (As := []) (rest := []) e_X10_calmer_15 ml_X10_236 ⟨_, _, _, _, rfl, rfl⟩ rfl (kk_fitR (by decide) (by decide)) (Nat.le_of_ble_eq_true rfl) rfl (s_X1_look Z σ _ h) (fun σ_2 h => ?_)
        refine kk_aload_n 0 rfl e_X10_calmer_18 ?_
        refine kk_getr e_X10_calmer_19 fl_X10_53 rfl rfl ?_
        refine kk_geti e_X10_calmer_22 fl_X10_239 rfl rfl ?_
        refine kk_if_gt e_X10_calmer_25 (fun c_7 => ?_) (fun c_7 => ?_)
        · replace h := h.1 c_7
          refine kk_iload_n 1 rfl e_X10_calmer_31 ?_
          refine kk_if_ne e_X10_calmer_32 (fun c_6 => ?_) (fun c_6 => ?_)
          · replace h := h.1 c_6
            refine kk_iload_n 1 rfl e_X10_calmer_43 ?_
            refine kk_iconst ic_1 e_X10_calmer_44 ?_
            refine kk_jW1 (P := fun (t_3 : Int32) => KK Z sh_C RX10 cX10_calmer 2 (some .int) (kk_R 7) (kk_Qi Z sh_C Q) 65 [] [.int t_3] σ_2) h ?_ ?_
            · intro t_3 h
              exact kk_iret e_X10_calmer_65 h
            · intro J_4 hJ_4 h
              refine kk_icmp_ne e_X10_calmer_45 (fun c_5 => ?_) (fun c_5 => ?_)
              · replace h := h.1 c_5
                refine kk_aload_n 0 rfl e_X10_calmer_58 ?_
                refine kk_getr e_X10_calmer_59 fl_X10_53 rfl rfl ?_
                refine kk_geti e_X10_calmer_62 fl_X10_245 rfl rfl ?_
                exact kk_sub [] rfl (hJ_4 (σ_2.1 6 4) h)
              · replace h := h.2 c_5
                refine kk_aload_n 0 rfl e_X10_calmer_48 ?_
                refine kk_getr e_X10_calmer_49 fl_X10_53 rfl rfl ?_
                refine kk_geti e_X10_calmer_52 fl_X10_242 rfl rfl ?_
                refine kk_goto e_X10_calmer_55 ?_
                exact kk_sub [] rfl (hJ_4 (σ_2.1 6 3) h)
          · replace h := h.2 c_6
            refine kk_aload_n 0 rfl e_X10_calmer_35 ?_
            refine kk_getr e_X10_calmer_36 fl_X10_53 rfl rfl ?_
            refine kk_geti e_X10_calmer_39 fl_X10_239 rfl rfl ?_
            exact kk_iret e_X10_calmer_42 h
        · replace h := h.2 c_7
          refine kk_bipush bp_m2 e_X10_calmer_28 ?_
          exact kk_iret e_X10_calmer_30 h
      · replace h := h.2 c_8
        exact kk_sub [] rfl (hJ_1 h)
theorem e_X3_isColour_0 : kk_d cX3_isColour 0 (.iload_n 1) 1 1 := ⟨by decide +kernel, rfl⟩
theorem e_X3_isColour_1 : kk_dj cX3_isColour 1 (.ifCond .lt 15) 3 (15) 4 16 := ⟨by decide +kernel, rfl, by decide⟩
theorem e_X3_isColour_17 : kk_d cX3_isColour 17 .ireturn 1 18 := ⟨by decide +kernel, rfl⟩
theorem e_X3_isColour_16 : kk_d cX3_isColour 16 (.iconst 0) 1 17 := ⟨by decide +kernel, rfl⟩
theorem e_X3_isColour_4 : kk_d cX3_isColour 4 (.iload_n 1) 1 5 := ⟨by decide +kernel, rfl⟩
theorem e_X3_isColour_5 : kk_d cX3_isColour 5 (.aload_n 0) 1 6 := ⟨by decide +kernel, rfl⟩
theorem e_X3_isColour_6 : kk_d cX3_isColour 6 (.invokevirtual 34) 3 9 := ⟨by decide +kernel, rfl⟩
theorem e_X3_isColour_9 : kk_dj cX3_isColour 9 (.if_icmp .ge 7) 3 (7) 12 16 := ⟨by decide +kernel, rfl, by decide⟩
theorem e_X3_isColour_12 : kk_d cX3_isColour 12 (.iconst 1) 1 13 := ⟨by decide +kernel, rfl⟩
theorem e_X3_isColour_13 : kk_dj cX3_isColour 13 (.goto 4) 3 (4) 16 17 := ⟨by decide +kernel, rfl, by decide⟩
set_option maxRecDepth 4000 in
theorem s_X3_isColour (Z : kk_Z) (v1 : Int32) (σ : kk_St) (Q : Int32 → Prop) (h : f_X3_isColour v1 σ Q) : kk_M Z sh_C yX3_isColour cX3_isColour 2 (some .boolean) (kk_R 3) [.ref (Z.2.1 2), .int v1] σ (kk_Qi Z sh_C (fun r σ' => σ' = σ ∧ Q r)) := by
  unfold f_X3_isColour at h
  refine kk_met (own := RX3) (by decide) rfl (Nat.le_of_ble_eq_true rfl) rfl ?_
  refine kk_iload_n 1 rfl e_X3_isColour_0 ?_
  refine kk_jW1 (P := fun (t_1 : Int32) => KK Z sh_C RX3 cX3_isColour 2 (some .boolean) (kk_R 3) (kk_Qi Z sh_C (fun r σ' => σ' = σ ∧ Q r)) 17 [] [.int t_1] σ) h ?_ ?_
  · intro t_1 h
    exact kk_zret e_X3_isColour_17 h.1 ⟨rfl, h.2⟩
  · intro J_2 hJ_2 h
    refine kk_jW0 (P := KK Z sh_C RX3 cX3_isColour 2 (some .boolean) (kk_R 3) (kk_Qi Z sh_C (fun r σ' => σ' = σ ∧ Q r)) 16 [] [] σ) h ?_ ?_
    · intro h
      refine kk_iconst ic_0 e_X3_isColour_16 ?_
      exact kk_sub [] rfl (hJ_2 (0 : Int32) h)
    · intro J_3 hJ_3 h
      refine kk_if_lt e_X3_isColour_1 (fun c_6 => ?_) (fun c_6 => ?_)
      · replace h := h.1 c_6
        exact kk_sub [] rfl (hJ_3 h)
      · replace h := h.2 c_6
        refine kk_iload_n 1 rfl e_X3_isColour_4 ?_
        refine kk_aload_n 0 rfl e_X3_isColour_5 ?_
        refine kk_callVip (As := []) (rest := [.int v1]) e_X3_isColour_6 ml_X3_34 ⟨_, _, _, _, rfl, rfl⟩ rfl (kk_fitR (by decide) (by decide)) (Nat.le_of_ble_eq_true rfl) rfl (s_X3_colours Z σ _ h) (fun r_4 h => ?_)
        refine kk_icmp_ge e_X3_isColour_9 (fun c_5 => ?_) (fun c_5 => ?_)
        · replace h := h.1 c_5
          exact kk_sub [] rfl (hJ_3 h)
        · replace h := h.2 c_5
          refine kk_iconst ic_1 e_X3_isColour_12 ?_
          refine kk_goto e_X3_isColour_13 ?_
          exact kk_sub [] rfl (hJ_2 (1 : Int32) h)
theorem e_X3_areUnlike_0 : kk_d cX3_areUnlike 0 (.aload_n 0) 1 1 := ⟨by decide +kernel, rfl⟩
theorem e_X3_areUnlike_1 : kk_d cX3_areUnlike 1 (.iload_n 1) 1 2 := ⟨by decide +kernel, rfl⟩
theorem e_X3_areUnlike_2 : kk_d cX3_areUnlike 2 (.invokevirtual 38) 3 5 := ⟨by decide +kernel, rfl⟩
theorem e_X3_areUnlike_5 : kk_dj cX3_areUnlike 5 (.ifCond .eq 20) 3 (20) 8 25 := ⟨by decide +kernel, rfl, by decide⟩
theorem e_X3_areUnlike_26 : kk_d cX3_areUnlike 26 .ireturn 1 27 := ⟨by decide +kernel, rfl⟩
theorem e_X3_areUnlike_25 : kk_d cX3_areUnlike 25 (.iconst 0) 1 26 := ⟨by decide +kernel, rfl⟩
theorem e_X3_areUnlike_8 : kk_d cX3_areUnlike 8 (.aload_n 0) 1 9 := ⟨by decide +kernel, rfl⟩
theorem e_X3_areUnlike_9 : kk_d cX3_areUnlike 9 (.iload_n 2) 1 10 := ⟨by decide +kernel, rfl⟩
theorem e_X3_areUnlike_10 : kk_d cX3_areUnlike 10 (.invokevirtual 38) 3 13 := ⟨by decide +kernel, rfl⟩
theorem e_X3_areUnlike_13 : kk_dj cX3_areUnlike 13 (.ifCond .eq 12) 3 (12) 16 25 := ⟨by decide +kernel, rfl, by decide⟩
theorem e_X3_areUnlike_16 : kk_d cX3_areUnlike 16 (.iload_n 1) 1 17 := ⟨by decide +kernel, rfl⟩
theorem e_X3_areUnlike_17 : kk_d cX3_areUnlike 17 (.iload_n 2) 1 18 := ⟨by decide +kernel, rfl⟩
theorem e_X3_areUnlike_18 : kk_dj cX3_areUnlike 18 (.if_icmp .eq 7) 3 (7) 21 25 := ⟨by decide +kernel, rfl, by decide⟩
theorem e_X3_areUnlike_21 : kk_d cX3_areUnlike 21 (.iconst 1) 1 22 := ⟨by decide +kernel, rfl⟩
theorem e_X3_areUnlike_22 : kk_dj cX3_areUnlike 22 (.goto 4) 3 (4) 25 26 := ⟨by decide +kernel, rfl, by decide⟩
set_option maxRecDepth 4000 in
theorem s_X3_areUnlike (Z : kk_Z) (v1 : Int32) (v2 : Int32) (σ : kk_St) (Q : Int32 → Prop) (h : f_X3_areUnlike v1 v2 σ Q) : kk_M Z sh_C yX3_areUnlike cX3_areUnlike 3 (some .boolean) (kk_R 4) [.ref (Z.2.1 2), .int v1, .int v2] σ (kk_Qi Z sh_C (fun r σ' => σ' = σ ∧ Q r)) := by
  unfold f_X3_areUnlike at h
  refine kk_met (own := RX3) (by decide) rfl (Nat.le_of_ble_eq_true rfl) rfl ?_
  refine kk_aload_n 0 rfl e_X3_areUnlike_0 ?_
  refine kk_iload_n 1 rfl e_X3_areUnlike_1 ?_
  refine kk_callVip (As := [.int v1]) (rest := []) e_X3_areUnlike_2 ml_X3_38 ⟨_, _, _, _, rfl, rfl⟩ rfl (kk_fitR (by decide) (by decide)) (Nat.le_of_ble_eq_true rfl) rfl (s_X3_isColour Z v1 σ _ h) (fun r_1 h => ?_)
  refine kk_jW1 (P := fun (t_2 : Int32) => KK Z sh_C RX3 cX3_areUnlike 3 (some .boolean) (kk_R 4) (kk_Qi Z sh_C (fun r σ' => σ' = σ ∧ Q r)) 26 [] [.int t_2] σ) h ?_ ?_
  · intro t_2 h
    exact kk_zret e_X3_areUnlike_26 h.1 ⟨rfl, h.2⟩
  · intro J_3 hJ_3 h
    refine kk_jW0 (P := KK Z sh_C RX3 cX3_areUnlike 3 (some .boolean) (kk_R 4) (kk_Qi Z sh_C (fun r σ' => σ' = σ ∧ Q r)) 25 [] [] σ) h ?_ ?_
    · intro h
      refine kk_iconst ic_0 e_X3_areUnlike_25 ?_
      exact kk_sub [] rfl (hJ_3 (0 : Int32) h)
    · intro J_4 hJ_4 h
      refine kk_if_eq e_X3_areUnlike_5 (fun c_8 => ?_) (fun c_8 => ?_)
      · replace h := h.1 c_8
        exact kk_sub [] rfl (hJ_4 h)
      · replace h := h.2 c_8
        refine kk_aload_n 0 rfl e_X3_areUnlike_8 ?_
        refine kk_iload_n 2 rfl e_X3_areUnlike_9 ?_
        refine kk_callVip (As := [.int v2]) (rest := []) e_X3_areUnlike_10 ml_X3_38 ⟨_, _, _, _, rfl, rfl⟩ rfl (kk_fitR (by decide) (by decide)) (Nat.le_of_ble_eq_true rfl) rfl (s_X3_isColour Z v2 σ _ h) (fun r_5 h => ?_)
        refine kk_if_eq e_X3_areUnlike_13 (fun c_7 => ?_) (fun c_7 => ?_)
        · replace h := h.1 c_7
          exact kk_sub [] rfl (hJ_4 h)
        · replace h := h.2 c_7
          refine kk_iload_n 1 rfl e_X3_areUnlike_16 ?_
          refine kk_iload_n 2 rfl e_X3_areUnlike_17 ?_
          refine kk_icmp_eq e_X3_areUnlike_18 (fun c_6 => ?_) (fun c_6 => ?_)
          · replace h := h.1 c_6
            exact kk_sub [] rfl (hJ_4 h)
          · replace h := h.2 c_6
            refine kk_iconst ic_1 e_X3_areUnlike_21 ?_
            refine kk_goto e_X3_areUnlike_22 ?_
            exact kk_sub [] rfl (hJ_3 (1 : Int32) h)
theorem e_X6_joined_0 : kk_d cX6_joined 0 (.iload_n 1) 1 1 := ⟨by decide +kernel, rfl⟩
theorem e_X6_joined_1 : kk_d cX6_joined 1 (.iload_n 2) 1 2 := ⟨by decide +kernel, rfl⟩
theorem e_X6_joined_2 : kk_d cX6_joined 2 .iand 1 3 := ⟨by decide +kernel, rfl⟩
theorem e_X6_joined_3 : kk_d cX6_joined 3 (.istore_n 3) 1 4 := ⟨by decide +kernel, rfl⟩
theorem e_X6_joined_4 : kk_d cX6_joined 4 (.iload_n 3) 1 5 := ⟨by decide +kernel, rfl⟩
theorem e_X6_joined_5 : kk_d cX6_joined 5 (.istore 4) 2 7 := ⟨by decide +kernel, rfl⟩
theorem e_X6_joined_7 : kk_d cX6_joined 7 (.iconst 0) 1 8 := ⟨by decide +kernel, rfl⟩
theorem e_X6_joined_8 : kk_d cX6_joined 8 (.istore 5) 2 10 := ⟨by decide +kernel, rfl⟩
theorem e_X6_joined_69 : kk_d cX6_joined 69 (.iload_n 3) 1 70 := ⟨by decide +kernel, rfl⟩
theorem e_X6_joined_70 : kk_d cX6_joined 70 .ireturn 1 71 := ⟨by decide +kernel, rfl⟩
theorem e_X6_joined_10 : kk_d cX6_joined 10 (.iload 5) 2 12 := ⟨by decide +kernel, rfl⟩
theorem e_X6_joined_12 : kk_d cX6_joined 12 (.bipush 20) 2 14 := ⟨by decide +kernel, rfl⟩
theorem e_X6_joined_14 : kk_dj cX6_joined 14 (.if_icmp .ge 55) 3 (55) 17 69 := ⟨by decide +kernel, rfl, by decide⟩
theorem e_X6_joined_17 : kk_d cX6_joined 17 (.iload 4) 2 19 := ⟨by decide +kernel, rfl⟩
theorem e_X6_joined_19 : kk_dj cX6_joined 19 (.ifCond .eq 50) 3 (50) 22 69 := ⟨by decide +kernel, rfl, by decide⟩
theorem e_X6_joined_22 : kk_d cX6_joined 22 (.iload 4) 2 24 := ⟨by decide +kernel, rfl⟩
theorem e_X6_joined_24 : kk_d cX6_joined 24 (.invokestatic 60) 3 27 := ⟨by decide +kernel, rfl⟩
theorem e_X6_joined_27 : kk_d cX6_joined 27 (.istore 6) 2 29 := ⟨by decide +kernel, rfl⟩
theorem e_X6_joined_29 : kk_d cX6_joined 29 (.aload_n 0) 1 30 := ⟨by decide +kernel, rfl⟩
theorem e_X6_joined_30 : kk_d cX6_joined 30 (.getfield 18) 3 33 := ⟨by decide +kernel, rfl⟩
theorem e_X6_joined_33 : kk_d cX6_joined 33 (.iload 6) 2 35 := ⟨by decide +kernel, rfl⟩
theorem e_X6_joined_35 : kk_d cX6_joined 35 .iaload 1 36 := ⟨by decide +kernel, rfl⟩
theorem e_X6_joined_36 : kk_d cX6_joined 36 (.iload_n 2) 1 37 := ⟨by decide +kernel, rfl⟩
theorem e_X6_joined_37 : kk_d cX6_joined 37 .iand 1 38 := ⟨by decide +kernel, rfl⟩
theorem e_X6_joined_38 : kk_d cX6_joined 38 (.iload_n 3) 1 39 := ⟨by decide +kernel, rfl⟩
theorem e_X6_joined_39 : kk_d cX6_joined 39 (.iconst (-1)) 1 40 := ⟨by decide +kernel, rfl⟩
theorem e_X6_joined_40 : kk_d cX6_joined 40 .ixor 1 41 := ⟨by decide +kernel, rfl⟩
theorem e_X6_joined_41 : kk_d cX6_joined 41 .iand 1 42 := ⟨by decide +kernel, rfl⟩
theorem e_X6_joined_42 : kk_d cX6_joined 42 (.istore 7) 2 44 := ⟨by decide +kernel, rfl⟩
theorem e_X6_joined_44 : kk_d cX6_joined 44 (.iload_n 3) 1 45 := ⟨by decide +kernel, rfl⟩
theorem e_X6_joined_45 : kk_d cX6_joined 45 (.iload 7) 2 47 := ⟨by decide +kernel, rfl⟩
theorem e_X6_joined_47 : kk_d cX6_joined 47 .ior 1 48 := ⟨by decide +kernel, rfl⟩
theorem e_X6_joined_48 : kk_d cX6_joined 48 (.istore_n 3) 1 49 := ⟨by decide +kernel, rfl⟩
theorem e_X6_joined_49 : kk_d cX6_joined 49 (.iload 4) 2 51 := ⟨by decide +kernel, rfl⟩
theorem e_X6_joined_51 : kk_d cX6_joined 51 (.iconst 1) 1 52 := ⟨by decide +kernel, rfl⟩
theorem e_X6_joined_52 : kk_d cX6_joined 52 (.iload 6) 2 54 := ⟨by decide +kernel, rfl⟩
theorem e_X6_joined_54 : kk_d cX6_joined 54 .ishl 1 55 := ⟨by decide +kernel, rfl⟩
theorem e_X6_joined_55 : kk_d cX6_joined 55 (.iconst (-1)) 1 56 := ⟨by decide +kernel, rfl⟩
theorem e_X6_joined_56 : kk_d cX6_joined 56 .ixor 1 57 := ⟨by decide +kernel, rfl⟩
theorem e_X6_joined_57 : kk_d cX6_joined 57 .iand 1 58 := ⟨by decide +kernel, rfl⟩
theorem e_X6_joined_58 : kk_d cX6_joined 58 (.iload 7) 2 60 := ⟨by decide +kernel, rfl⟩
theorem e_X6_joined_60 : kk_d cX6_joined 60 .ior 1 61 := ⟨by decide +kernel, rfl⟩
theorem e_X6_joined_61 : kk_d cX6_joined 61 (.istore 4) 2 63 := ⟨by decide +kernel, rfl⟩
theorem e_X6_joined_63 : kk_d cX6_joined 63 (.iinc 5 1) 3 66 := ⟨by decide +kernel, rfl⟩
theorem e_X6_joined_66 : kk_dj cX6_joined 66 (.goto (-56)) 3 (-56) 69 10 := ⟨by decide +kernel, rfl, by decide⟩
set_option maxRecDepth 4000 in
theorem s_X6_joined (Z : kk_Z) (v1 : Int32) (v2 : Int32) (σ : kk_St) (Q : Int32 → Prop) (h : f_X6_joined v1 v2 σ Q) : kk_M Z sh_C yX6_joined cX6_joined 8 (some .int) (kk_R 3) [.ref (Z.2.1 1), .int v1, .int v2] σ (kk_Qi Z sh_C (fun r σ' => σ' = σ ∧ Q r)) := by
  unfold f_X6_joined at h
  refine kk_met (own := RX6) (by decide) rfl (Nat.le_of_ble_eq_true rfl) rfl ?_
  refine kk_iload_n 1 rfl e_X6_joined_0 ?_
  refine kk_iload_n 2 rfl e_X6_joined_1 ?_
  refine kk_iand e_X6_joined_2 ?_
  refine kk_istore_n (lv' := [(3, .int (v1 &&& v2)), (0, .ref (Z.2.1 1)), (1, .int v1), (2, .int v2)]) e_X6_joined_3 rfl (by decide) rfl ?_
  refine kk_iload_n 0 rfl e_X6_joined_4 ?_
  refine kk_istore (lv' := [(4, .int (v1 &&& v2)), (3, .int (v1 &&& v2)), (0, .ref (Z.2.1 1)), (1, .int v1), (2, .int v2)]) e_X6_joined_5 (by decide) rfl ?_
  refine kk_iconst ic_0 e_X6_joined_7 ?_
  refine kk_istore (lv' := [(5, .int (0 : Int32)), (4, .int (v1 &&& v2)), (3, .int (v1 &&& v2)), (0, .ref (Z.2.1 1)), (1, .int v1), (2, .int v2)]) e_X6_joined_8 (by decide) rfl ?_
  refine kk_jW1 (P := fun (v3_1 : Int32) => KK Z sh_C RX6 cX6_joined 8 (some .int) (kk_R 3) (kk_Qi Z sh_C (fun r σ' => σ' = σ ∧ Q r)) 69 [(3, .int v3_1)] [] σ) h ?_ ?_
  · intro v3_1 h
    refine kk_iload_n 0 rfl e_X6_joined_69 ?_
    exact kk_iret e_X6_joined_70 ⟨rfl, h⟩
  · intro J_2 hJ_2 h
    refine kk_sub [3, 5, 2, 1, 0] rfl ?_
    refine kk_lpW3 (P := fun (v3_3 : Int32) (v4_4 : Int32) (v5_5 : Int32) => KK Z sh_C RX6 cX6_joined 8 (some .int) (kk_R 3) (kk_Qi Z sh_C (fun r σ' => σ' = σ ∧ Q r)) 10 [(0, .ref (Z.2.1 1)), (2, .int v2), (3, .int v3_3), (4, .int v4_4), (5, .int v5_5)] [] σ) ?_ h
    intro rec_6 hrec_6 v3_3 v4_4 v5_5 h
    refine kk_iload 4 rfl e_X6_joined_10 ?_
    refine kk_bipush bp_20 e_X6_joined_12 ?_
    refine kk_icmp_ge e_X6_joined_14 (fun c_11 => ?_) (fun c_11 => ?_)
    · replace h := h.1 c_11
      exact kk_sub [2] rfl (hJ_2 v3_3 h)
    · replace h := h.2 c_11
      refine kk_iload 3 rfl e_X6_joined_17 ?_
      refine kk_if_eq e_X6_joined_19 (fun c_10 => ?_) (fun c_10 => ?_)
      · replace h := h.1 c_10
        exact kk_sub [2] rfl (hJ_2 v3_3 h)
      · replace h := h.2 c_10
        refine kk_iload 3 rfl e_X6_joined_22 ?_
        refine kk_callSip (As := [.int v4_4]) (rest := []) e_X6_joined_24 ml_X6_60 rfl (kk_fitR (by decide) (by decide)) (Nat.le_of_ble_eq_true rfl) rfl (s_J6_numberOfTrailingZeros_0f7a4 Z v4_4 σ _ h) (fun r_7 h => ?_)
        refine kk_istore (lv' := [(6, .int r_7), (0, .ref (Z.2.1 1)), (2, .int v2), (3, .int v3_3), (4, .int v4_4), (5, .int v5_5)]) e_X6_joined_27 (by decide) rfl ?_
        refine kk_aload_n 1 rfl e_X6_joined_29 ?_
        refine kk_getr e_X6_joined_30 fl_X6_18 rfl rfl ?_
        refine kk_iload 0 rfl e_X6_joined_33 ?_
        refine kk_iald e_X6_joined_35 rfl h.1 ?_
        replace h := h.2
        refine kk_iload_n 2 rfl e_X6_joined_36 ?_
        refine kk_iand e_X6_joined_37 ?_
        refine kk_iload_n 3 rfl e_X6_joined_38 ?_
        refine kk_iconst ic_m1 e_X6_joined_39 ?_
        refine kk_ixor e_X6_joined_40 ?_
        refine kk_iand e_X6_joined_41 ?_
        refine kk_topi (fun v7_8 ev7_8 => ?_)
        replace h := h v7_8 ev7_8
        refine kk_istore (lv' := [(7, .int v7_8), (6, .int r_7), (0, .ref (Z.2.1 1)), (2, .int v2), (3, .int v3_3), (4, .int v4_4), (5, .int v5_5)]) e_X6_joined_42 (by decide) rfl ?_
        refine kk_iload_n 4 rfl e_X6_joined_44 ?_
        refine kk_iload 0 rfl e_X6_joined_45 ?_
        refine kk_ior e_X6_joined_47 ?_
        refine kk_istore_n (lv' := [(3, .int (v3_3 ||| v7_8)), (7, .int v7_8), (6, .int r_7), (0, .ref (Z.2.1 1)), (2, .int v2), (4, .int v4_4), (5, .int v5_5)]) e_X6_joined_48 rfl (by decide) rfl ?_
        refine kk_iload 5 rfl e_X6_joined_49 ?_
        refine kk_iconst ic_1 e_X6_joined_51 ?_
        refine kk_iload 2 rfl e_X6_joined_52 ?_
        refine kk_ishl e_X6_joined_54 ?_
        refine kk_iconst ic_m1 e_X6_joined_55 ?_
        refine kk_ixor e_X6_joined_56 ?_
        refine kk_iand e_X6_joined_57 ?_
        refine kk_iload 1 rfl e_X6_joined_58 ?_
        refine kk_ior e_X6_joined_60 ?_
        refine kk_topi (fun v4_9 ev4_9 => ?_)
        replace h := h v4_9 ev4_9
        refine kk_istore (lv' := [(4, .int v4_9), (3, .int (v3_3 ||| v7_8)), (7, .int v7_8), (6, .int r_7), (0, .ref (Z.2.1 1)), (2, .int v2), (5, .int v5_5)]) e_X6_joined_61 (by decide) rfl ?_
        refine kk_iinc (lv' := [(5, .int (v5_5 + (1 : Int32))), (4, .int v4_9), (3, .int (v3_3 ||| v7_8)), (7, .int v7_8), (6, .int r_7), (0, .ref (Z.2.1 1)), (2, .int v2)]) e_X6_joined_63 (j := 6) rfl (ii_1 v5_5) (by decide) rfl ?_
        refine kk_goto e_X6_joined_66 ?_
        exact kk_sub [5, 6, 2, 1, 0] rfl (hrec_6 (v3_3 ||| v7_8) v4_9 (v5_5 + (1 : Int32)) h)
theorem e_X3_chainOf_0 : kk_d cX3_chainOf 0 (.aload_n 0) 1 1 := ⟨by decide +kernel, rfl⟩
theorem e_X3_chainOf_1 : kk_d cX3_chainOf 1 (.getfield 18) 3 4 := ⟨by decide +kernel, rfl⟩
theorem e_X3_chainOf_4 : kk_d cX3_chainOf 4 (.aload_n 0) 1 5 := ⟨by decide +kernel, rfl⟩
theorem e_X3_chainOf_5 : kk_d cX3_chainOf 5 (.getfield 18) 3 8 := ⟨by decide +kernel, rfl⟩
theorem e_X3_chainOf_8 : kk_d cX3_chainOf 8 (.getfield 60) 3 11 := ⟨by decide +kernel, rfl⟩
theorem e_X3_chainOf_11 : kk_d cX3_chainOf 11 (.iload_n 1) 1 12 := ⟨by decide +kernel, rfl⟩
theorem e_X3_chainOf_12 : kk_d cX3_chainOf 12 .iaload 1 13 := ⟨by decide +kernel, rfl⟩
theorem e_X3_chainOf_13 : kk_d cX3_chainOf 13 (.aload_n 0) 1 14 := ⟨by decide +kernel, rfl⟩
theorem e_X3_chainOf_14 : kk_d cX3_chainOf 14 (.getfield 15) 3 17 := ⟨by decide +kernel, rfl⟩
theorem e_X3_chainOf_17 : kk_d cX3_chainOf 17 (.iload_n 2) 1 18 := ⟨by decide +kernel, rfl⟩
theorem e_X3_chainOf_18 : kk_d cX3_chainOf 18 .iaload 1 19 := ⟨by decide +kernel, rfl⟩
theorem e_X3_chainOf_19 : kk_d cX3_chainOf 19 (.aload_n 0) 1 20 := ⟨by decide +kernel, rfl⟩
theorem e_X3_chainOf_20 : kk_d cX3_chainOf 20 (.getfield 15) 3 23 := ⟨by decide +kernel, rfl⟩
theorem e_X3_chainOf_23 : kk_d cX3_chainOf 23 (.iload_n 3) 1 24 := ⟨by decide +kernel, rfl⟩
theorem e_X3_chainOf_24 : kk_d cX3_chainOf 24 .iaload 1 25 := ⟨by decide +kernel, rfl⟩
theorem e_X3_chainOf_25 : kk_d cX3_chainOf 25 .ior 1 26 := ⟨by decide +kernel, rfl⟩
theorem e_X3_chainOf_26 : kk_d cX3_chainOf 26 (.invokevirtual 82) 3 29 := ⟨by decide +kernel, rfl⟩
theorem e_X3_chainOf_29 : kk_d cX3_chainOf 29 .ireturn 1 30 := ⟨by decide +kernel, rfl⟩
set_option maxRecDepth 4000 in
theorem s_X3_chainOf (Z : kk_Z) (v1 : Int32) (v2 : Int32) (v3 : Int32) (σ : kk_St) (Q : Int32 → Prop) (h : f_X3_chainOf v1 v2 v3 σ Q) : kk_M Z sh_C yX3_chainOf cX3_chainOf 4 (some .int) (kk_R 4) [.ref (Z.2.1 2), .int v1, .int v2, .int v3] σ (kk_Qi Z sh_C (fun r σ' => σ' = σ ∧ Q r)) := by
  unfold f_X3_chainOf at h
  refine kk_met (own := RX3) (by decide) rfl (Nat.le_of_ble_eq_true rfl) rfl ?_
  refine kk_aload_n 0 rfl e_X3_chainOf_0 ?_
  refine kk_getr e_X3_chainOf_1 fl_X3_18 rfl rfl ?_
  refine kk_aload_n 0 rfl e_X3_chainOf_4 ?_
  refine kk_getr e_X3_chainOf_5 fl_X3_18 rfl rfl ?_
  refine kk_getr e_X3_chainOf_8 fl_X3_60 rfl rfl ?_
  refine kk_iload_n 1 rfl e_X3_chainOf_11 ?_
  refine kk_iald e_X3_chainOf_12 rfl h.1 ?_
  replace h := h.2
  refine kk_aload_n 0 rfl e_X3_chainOf_13 ?_
  refine kk_getr e_X3_chainOf_14 fl_X3_15 rfl rfl ?_
  refine kk_iload_n 2 rfl e_X3_chainOf_17 ?_
  refine kk_iald e_X3_chainOf_18 rfl h.1 ?_
  replace h := h.2
  refine kk_aload_n 0 rfl e_X3_chainOf_19 ?_
  refine kk_getr e_X3_chainOf_20 fl_X3_15 rfl rfl ?_
  refine kk_iload_n 3 rfl e_X3_chainOf_23 ?_
  refine kk_iald e_X3_chainOf_24 rfl h.1 ?_
  replace h := h.2
  refine kk_ior e_X3_chainOf_25 ?_
  refine kk_callVip (As := [.int (kk_rd σ 14 v1), .int ((kk_rd σ 17 v2) ||| (kk_rd σ 17 v3))]) (rest := []) e_X3_chainOf_26 ml_X3_82 ⟨_, _, _, _, rfl, rfl⟩ rfl (kk_fitR (by decide) (by decide)) (Nat.le_of_ble_eq_true rfl) rfl (s_X6_joined Z (kk_rd σ 14 v1) ((kk_rd σ 17 v2) ||| (kk_rd σ 17 v3)) σ _ h) (fun r_1 h => ?_)
  exact kk_iret e_X3_chainOf_29 ⟨rfl, h⟩
theorem e_X6_isPost_0 : kk_d cX6_isPost 0 (.iload_n 1) 1 1 := ⟨by decide +kernel, rfl⟩
theorem e_X6_isPost_1 : kk_dj cX6_isPost 1 (.ifCond .lt 15) 3 (15) 4 16 := ⟨by decide +kernel, rfl, by decide⟩
theorem e_X6_isPost_17 : kk_d cX6_isPost 17 .ireturn 1 18 := ⟨by decide +kernel, rfl⟩
theorem e_X6_isPost_16 : kk_d cX6_isPost 16 (.iconst 0) 1 17 := ⟨by decide +kernel, rfl⟩
theorem e_X6_isPost_4 : kk_d cX6_isPost 4 (.iload_n 1) 1 5 := ⟨by decide +kernel, rfl⟩
theorem e_X6_isPost_5 : kk_d cX6_isPost 5 (.aload_n 0) 1 6 := ⟨by decide +kernel, rfl⟩
theorem e_X6_isPost_6 : kk_d cX6_isPost 6 (.getfield 27) 3 9 := ⟨by decide +kernel, rfl⟩
theorem e_X6_isPost_9 : kk_dj cX6_isPost 9 (.if_icmp .ge 7) 3 (7) 12 16 := ⟨by decide +kernel, rfl, by decide⟩
theorem e_X6_isPost_12 : kk_d cX6_isPost 12 (.iconst 1) 1 13 := ⟨by decide +kernel, rfl⟩
theorem e_X6_isPost_13 : kk_dj cX6_isPost 13 (.goto 4) 3 (4) 16 17 := ⟨by decide +kernel, rfl, by decide⟩
set_option maxRecDepth 4000 in
theorem s_X6_isPost (Z : kk_Z) (v1 : Int32) (σ : kk_St) (Q : Int32 → Prop) (h : f_X6_isPost v1 σ Q) : kk_M Z sh_C yX6_isPost cX6_isPost 2 (some .boolean) (kk_R 2) [.ref (Z.2.1 1), .int v1] σ (kk_Qi Z sh_C (fun r σ' => σ' = σ ∧ Q r)) := by
  unfold f_X6_isPost at h
  refine kk_met (own := RX6) (by decide) rfl (Nat.le_of_ble_eq_true rfl) rfl ?_
  refine kk_iload_n 1 rfl e_X6_isPost_0 ?_
  refine kk_jW1 (P := fun (t_1 : Int32) => KK Z sh_C RX6 cX6_isPost 2 (some .boolean) (kk_R 2) (kk_Qi Z sh_C (fun r σ' => σ' = σ ∧ Q r)) 17 [] [.int t_1] σ) h ?_ ?_
  · intro t_1 h
    exact kk_zret e_X6_isPost_17 h.1 ⟨rfl, h.2⟩
  · intro J_2 hJ_2 h
    refine kk_jW0 (P := KK Z sh_C RX6 cX6_isPost 2 (some .boolean) (kk_R 2) (kk_Qi Z sh_C (fun r σ' => σ' = σ ∧ Q r)) 16 [] [] σ) h ?_ ?_
    · intro h
      refine kk_iconst ic_0 e_X6_isPost_16 ?_
      exact kk_sub [] rfl (hJ_2 (0 : Int32) h)
    · intro J_3 hJ_3 h
      refine kk_if_lt e_X6_isPost_1 (fun c_5 => ?_) (fun c_5 => ?_)
      · replace h := h.1 c_5
        exact kk_sub [] rfl (hJ_3 h)
      · replace h := h.2 c_5
        refine kk_iload_n 1 rfl e_X6_isPost_4 ?_
        refine kk_aload_n 0 rfl e_X6_isPost_5 ?_
        refine kk_geti e_X6_isPost_6 fl_X6_27 rfl rfl ?_
        refine kk_icmp_ge e_X6_isPost_9 (fun c_4 => ?_) (fun c_4 => ?_)
        · replace h := h.1 c_4
          exact kk_sub [] rfl (hJ_3 h)
        · replace h := h.2 c_4
          refine kk_iconst ic_1 e_X6_isPost_12 ?_
          refine kk_goto e_X6_isPost_13 ?_
          exact kk_sub [] rfl (hJ_2 (1 : Int32) h)
theorem e_X6_postsOf_0 : kk_d cX6_postsOf 0 (.iconst 0) 1 1 := ⟨by decide +kernel, rfl⟩
theorem e_X6_postsOf_1 : kk_d cX6_postsOf 1 (.istore_n 2) 1 2 := ⟨by decide +kernel, rfl⟩
theorem e_X6_postsOf_2 : kk_d cX6_postsOf 2 (.iconst 0) 1 3 := ⟨by decide +kernel, rfl⟩
theorem e_X6_postsOf_3 : kk_d cX6_postsOf 3 (.istore_n 3) 1 4 := ⟨by decide +kernel, rfl⟩
theorem e_X6_postsOf_4 : kk_d cX6_postsOf 4 (.iload_n 3) 1 5 := ⟨by decide +kernel, rfl⟩
theorem e_X6_postsOf_5 : kk_d cX6_postsOf 5 (.aload_n 0) 1 6 := ⟨by decide +kernel, rfl⟩
theorem e_X6_postsOf_6 : kk_d cX6_postsOf 6 (.getfield 27) 3 9 := ⟨by decide +kernel, rfl⟩
theorem e_X6_postsOf_9 : kk_dj cX6_postsOf 9 (.if_icmp .ge 26) 3 (26) 12 35 := ⟨by decide +kernel, rfl, by decide⟩
theorem e_X6_postsOf_35 : kk_d cX6_postsOf 35 (.iload_n 2) 1 36 := ⟨by decide +kernel, rfl⟩
theorem e_X6_postsOf_36 : kk_d cX6_postsOf 36 .ireturn 1 37 := ⟨by decide +kernel, rfl⟩
theorem e_X6_postsOf_12 : kk_d cX6_postsOf 12 (.aload_n 0) 1 13 := ⟨by decide +kernel, rfl⟩
theorem e_X6_postsOf_13 : kk_d cX6_postsOf 13 (.getfield 21) 3 16 := ⟨by decide +kernel, rfl⟩
theorem e_X6_postsOf_16 : kk_d cX6_postsOf 16 (.iload_n 3) 1 17 := ⟨by decide +kernel, rfl⟩
theorem e_X6_postsOf_17 : kk_d cX6_postsOf 17 .iaload 1 18 := ⟨by decide +kernel, rfl⟩
theorem e_X6_postsOf_18 : kk_d cX6_postsOf 18 (.iload_n 1) 1 19 := ⟨by decide +kernel, rfl⟩
theorem e_X6_postsOf_19 : kk_d cX6_postsOf 19 .iand 1 20 := ⟨by decide +kernel, rfl⟩
theorem e_X6_postsOf_20 : kk_dj cX6_postsOf 20 (.ifCond .eq 9) 3 (9) 23 29 := ⟨by decide +kernel, rfl, by decide⟩
theorem e_X6_postsOf_29 : kk_d cX6_postsOf 29 (.iinc 3 1) 3 32 := ⟨by decide +kernel, rfl⟩
theorem e_X6_postsOf_32 : kk_dj cX6_postsOf 32 (.goto (-28)) 3 (-28) 35 4 := ⟨by decide +kernel, rfl, by decide⟩
theorem e_X6_postsOf_23 : kk_d cX6_postsOf 23 (.iload_n 2) 1 24 := ⟨by decide +kernel, rfl⟩
theorem e_X6_postsOf_24 : kk_d cX6_postsOf 24 (.iconst 1) 1 25 := ⟨by decide +kernel, rfl⟩
theorem e_X6_postsOf_25 : kk_d cX6_postsOf 25 (.iload_n 3) 1 26 := ⟨by decide +kernel, rfl⟩
theorem e_X6_postsOf_26 : kk_d cX6_postsOf 26 .ishl 1 27 := ⟨by decide +kernel, rfl⟩
theorem e_X6_postsOf_27 : kk_d cX6_postsOf 27 .ior 1 28 := ⟨by decide +kernel, rfl⟩
theorem e_X6_postsOf_28 : kk_d cX6_postsOf 28 (.istore_n 2) 1 29 := ⟨by decide +kernel, rfl⟩
set_option maxRecDepth 4000 in
theorem s_X6_postsOf (Z : kk_Z) (v1 : Int32) (σ : kk_St) (Q : Int32 → Prop) (h : f_X6_postsOf v1 σ Q) : kk_M Z sh_C yX6_postsOf cX6_postsOf 4 (some .int) (kk_R 2) [.ref (Z.2.1 1), .int v1] σ (kk_Qi Z sh_C (fun r σ' => σ' = σ ∧ Q r)) := by
  unfold f_X6_postsOf at h
  refine kk_met (own := RX6) (by decide) rfl (Nat.le_of_ble_eq_true rfl) rfl ?_
  refine kk_iconst ic_0 e_X6_postsOf_0 ?_
  refine kk_istore_n (lv' := [(2, .int (0 : Int32)), (0, .ref (Z.2.1 1)), (1, .int v1)]) e_X6_postsOf_1 rfl (by decide) rfl ?_
  refine kk_iconst ic_0 e_X6_postsOf_2 ?_
  refine kk_istore_n (lv' := [(3, .int (0 : Int32)), (2, .int (0 : Int32)), (0, .ref (Z.2.1 1)), (1, .int v1)]) e_X6_postsOf_3 rfl (by decide) rfl ?_
  refine kk_sub [2, 3, 1, 0] rfl ?_
  refine kk_lpW2 (P := fun (v2_1 : Int32) (v3_2 : Int32) => KK Z sh_C RX6 cX6_postsOf 4 (some .int) (kk_R 2) (kk_Qi Z sh_C (fun r σ' => σ' = σ ∧ Q r)) 4 [(0, .ref (Z.2.1 1)), (1, .int v1), (2, .int v2_1), (3, .int v3_2)] [] σ) ?_ h
  intro rec_3 hrec_3 v2_1 v3_2 h
  refine kk_iload_n 3 rfl e_X6_postsOf_4 ?_
  refine kk_aload_n 0 rfl e_X6_postsOf_5 ?_
  refine kk_geti e_X6_postsOf_6 fl_X6_27 rfl rfl ?_
  refine kk_icmp_ge e_X6_postsOf_9 (fun c_8 => ?_) (fun c_8 => ?_)
  · replace h := h.1 c_8
    refine kk_iload_n 2 rfl e_X6_postsOf_35 ?_
    exact kk_iret e_X6_postsOf_36 ⟨rfl, h⟩
  · replace h := h.2 c_8
    refine kk_aload_n 0 rfl e_X6_postsOf_12 ?_
    refine kk_getr e_X6_postsOf_13 fl_X6_21 rfl rfl ?_
    refine kk_iload_n 3 rfl e_X6_postsOf_16 ?_
    refine kk_iald e_X6_postsOf_17 rfl h.1 ?_
    replace h := h.2
    refine kk_iload_n 1 rfl e_X6_postsOf_18 ?_
    refine kk_iand e_X6_postsOf_19 ?_
    refine kk_jW1 (P := fun (v2_4 : Int32) => KK Z sh_C RX6 cX6_postsOf 4 (some .int) (kk_R 2) (kk_Qi Z sh_C (fun r σ' => σ' = σ ∧ Q r)) 29 [(0, .ref (Z.2.1 1)), (1, .int v1), (2, .int v2_4), (3, .int v3_2)] [] σ) h ?_ ?_
    · intro v2_4 h
      refine kk_iinc (lv' := [(3, .int (v3_2 + (1 : Int32))), (0, .ref (Z.2.1 1)), (1, .int v1), (2, .int v2_4)]) e_X6_postsOf_29 (j := 3) rfl (ii_1 v3_2) (by decide) rfl ?_
      refine kk_goto e_X6_postsOf_32 ?_
      exact kk_sub [1, 2, 3, 0] rfl (hrec_3 v2_4 (v3_2 + (1 : Int32)) h)
    · intro J_5 hJ_5 h
      refine kk_if_eq e_X6_postsOf_20 (fun c_7 => ?_) (fun c_7 => ?_)
      · replace h := h.1 c_7
        exact kk_sub [0, 1, 2, 3] rfl (hJ_5 v2_1 h)
      · replace h := h.2 c_7
        refine kk_iload_n 2 rfl e_X6_postsOf_23 ?_
        refine kk_iconst ic_1 e_X6_postsOf_24 ?_
        refine kk_iload_n 3 rfl e_X6_postsOf_25 ?_
        refine kk_ishl e_X6_postsOf_26 ?_
        refine kk_ior e_X6_postsOf_27 ?_
        refine kk_topi (fun v2_6 ev2_6 => ?_)
        replace h := h v2_6 ev2_6
        refine kk_istore_n (lv' := [(2, .int v2_6), (0, .ref (Z.2.1 1)), (1, .int v1), (3, .int v3_2)]) e_X6_postsOf_28 rfl (by decide) rfl ?_
        exact kk_sub [1, 2, 0, 3] rfl (hJ_5 v2_6 h)
theorem e_X10_chain_0 : kk_d cX10_chain 0 (.aload_n 0) 1 1 := ⟨by decide +kernel, rfl⟩
theorem e_X10_chain_1 : kk_d cX10_chain 1 (.getfield 10) 3 4 := ⟨by decide +kernel, rfl⟩
theorem e_X10_chain_4 : kk_d cX10_chain 4 (.iload_n 1) 1 5 := ⟨by decide +kernel, rfl⟩
theorem e_X10_chain_5 : kk_d cX10_chain 5 (.invokevirtual 108) 3 8 := ⟨by decide +kernel, rfl⟩
theorem e_X10_chain_8 : kk_dj cX10_chain 8 (.ifCond .eq 15) 3 (15) 11 23 := ⟨by decide +kernel, rfl, by decide⟩
theorem e_X10_chain_23 : kk_d cX10_chain 23 (.iconst (-1)) 1 24 := ⟨by decide +kernel, rfl⟩
theorem e_X10_chain_24 : kk_d cX10_chain 24 .ireturn 1 25 := ⟨by decide +kernel, rfl⟩
theorem e_X10_chain_11 : kk_d cX10_chain 11 (.aload_n 0) 1 12 := ⟨by decide +kernel, rfl⟩
theorem e_X10_chain_12 : kk_d cX10_chain 12 (.getfield 21) 3 15 := ⟨by decide +kernel, rfl⟩
theorem e_X10_chain_15 : kk_d cX10_chain 15 (.iload_n 2) 1 16 := ⟨by decide +kernel, rfl⟩
theorem e_X10_chain_16 : kk_d cX10_chain 16 (.iload_n 3) 1 17 := ⟨by decide +kernel, rfl⟩
theorem e_X10_chain_17 : kk_d cX10_chain 17 (.invokevirtual 143) 3 20 := ⟨by decide +kernel, rfl⟩
theorem e_X10_chain_20 : kk_dj cX10_chain 20 (.ifCond .ne 5) 3 (5) 23 25 := ⟨by decide +kernel, rfl, by decide⟩
theorem e_X10_chain_25 : kk_d cX10_chain 25 (.aload_n 0) 1 26 := ⟨by decide +kernel, rfl⟩
theorem e_X10_chain_26 : kk_d cX10_chain 26 (.getfield 21) 3 29 := ⟨by decide +kernel, rfl⟩
theorem e_X10_chain_29 : kk_d cX10_chain 29 (.iload_n 1) 1 30 := ⟨by decide +kernel, rfl⟩
theorem e_X10_chain_30 : kk_d cX10_chain 30 (.iload_n 2) 1 31 := ⟨by decide +kernel, rfl⟩
theorem e_X10_chain_31 : kk_d cX10_chain 31 (.iload_n 3) 1 32 := ⟨by decide +kernel, rfl⟩
theorem e_X10_chain_32 : kk_d cX10_chain 32 (.invokevirtual 147) 3 35 := ⟨by decide +kernel, rfl⟩
theorem e_X10_chain_35 : kk_d cX10_chain 35 (.istore 5) 2 37 := ⟨by decide +kernel, rfl⟩
theorem e_X10_chain_37 : kk_d cX10_chain 37 (.aload_n 0) 1 38 := ⟨by decide +kernel, rfl⟩
theorem e_X10_chain_38 : kk_d cX10_chain 38 (.getfield 10) 3 41 := ⟨by decide +kernel, rfl⟩
theorem e_X10_chain_41 : kk_d cX10_chain 41 (.iload 5) 2 43 := ⟨by decide +kernel, rfl⟩
theorem e_X10_chain_43 : kk_d cX10_chain 43 (.invokevirtual 224) 3 46 := ⟨by decide +kernel, rfl⟩
theorem e_X10_chain_46 : kk_d cX10_chain 46 (.iconst 1) 1 47 := ⟨by decide +kernel, rfl⟩
theorem e_X10_chain_47 : kk_d cX10_chain 47 (.iload_n 1) 1 48 := ⟨by decide +kernel, rfl⟩
theorem e_X10_chain_48 : kk_d cX10_chain 48 .ishl 1 49 := ⟨by decide +kernel, rfl⟩
theorem e_X10_chain_49 : kk_d cX10_chain 49 .ior 1 50 := ⟨by decide +kernel, rfl⟩
theorem e_X10_chain_50 : kk_d cX10_chain 50 (.istore 6) 2 52 := ⟨by decide +kernel, rfl⟩
theorem e_X10_chain_52 : kk_d cX10_chain 52 (.iload 4) 2 54 := ⟨by decide +kernel, rfl⟩
theorem e_X10_chain_54 : decode cX10_chain 54 = .ok (.tableswitch 89 0 3 #[30, 33, 36, 55], 30) := by decide +kernel
theorem e_X10_chain_84 : kk_d cX10_chain 84 (.iload 5) 2 86 := ⟨by decide +kernel, rfl⟩
theorem e_X10_chain_86 : kk_d cX10_chain 86 .ireturn 1 87 := ⟨by decide +kernel, rfl⟩
theorem e_X10_chain_87 : kk_d cX10_chain 87 (.iload 6) 2 89 := ⟨by decide +kernel, rfl⟩
theorem e_X10_chain_89 : kk_d cX10_chain 89 .ireturn 1 90 := ⟨by decide +kernel, rfl⟩
theorem e_X10_chain_90 : kk_d cX10_chain 90 (.iload 5) 2 92 := ⟨by decide +kernel, rfl⟩
theorem e_X10_chain_92 : kk_d cX10_chain 92 (.invokestatic 155) 3 95 := ⟨by decide +kernel, rfl⟩
theorem e_X10_chain_95 : kk_d cX10_chain 95 (.iload 6) 2 97 := ⟨by decide +kernel, rfl⟩
theorem e_X10_chain_97 : kk_d cX10_chain 97 (.invokestatic 155) 3 100 := ⟨by decide +kernel, rfl⟩
theorem e_X10_chain_100 : kk_dj cX10_chain 100 (.if_icmp .ne 7) 3 (7) 103 107 := ⟨by decide +kernel, rfl, by decide⟩
theorem e_X10_chain_108 : kk_d cX10_chain 108 .ireturn 1 109 := ⟨by decide +kernel, rfl⟩
theorem e_X10_chain_107 : kk_d cX10_chain 107 (.iconst 0) 1 108 := ⟨by decide +kernel, rfl⟩
theorem e_X10_chain_103 : kk_d cX10_chain 103 (.iconst 1) 1 104 := ⟨by decide +kernel, rfl⟩
theorem e_X10_chain_104 : kk_dj cX10_chain 104 (.goto 4) 3 (4) 107 108 := ⟨by decide +kernel, rfl, by decide⟩
theorem e_X10_chain_109 : kk_d cX10_chain 109 (.iload 5) 2 111 := ⟨by decide +kernel, rfl⟩
theorem e_X10_chain_111 : kk_d cX10_chain 111 (.aload_n 0) 1 112 := ⟨by decide +kernel, rfl⟩
theorem e_X10_chain_112 : kk_d cX10_chain 112 (.getfield 21) 3 115 := ⟨by decide +kernel, rfl⟩
theorem e_X10_chain_115 : kk_d cX10_chain 115 (.getfield 160) 3 118 := ⟨by decide +kernel, rfl⟩
theorem e_X10_chain_118 : kk_d cX10_chain 118 (.iload_n 2) 1 119 := ⟨by decide +kernel, rfl⟩
theorem e_X10_chain_119 : kk_d cX10_chain 119 .iaload 1 120 := ⟨by decide +kernel, rfl⟩
theorem e_X10_chain_120 : kk_d cX10_chain 120 .iand 1 121 := ⟨by decide +kernel, rfl⟩
theorem e_X10_chain_121 : kk_d cX10_chain 121 (.invokestatic 155) 3 124 := ⟨by decide +kernel, rfl⟩
theorem e_X10_chain_124 : kk_d cX10_chain 124 (.iload 5) 2 126 := ⟨by decide +kernel, rfl⟩
theorem e_X10_chain_126 : kk_d cX10_chain 126 (.aload_n 0) 1 127 := ⟨by decide +kernel, rfl⟩
theorem e_X10_chain_127 : kk_d cX10_chain 127 (.getfield 21) 3 130 := ⟨by decide +kernel, rfl⟩
theorem e_X10_chain_130 : kk_d cX10_chain 130 (.getfield 160) 3 133 := ⟨by decide +kernel, rfl⟩
theorem e_X10_chain_133 : kk_d cX10_chain 133 (.iload_n 3) 1 134 := ⟨by decide +kernel, rfl⟩
theorem e_X10_chain_134 : kk_d cX10_chain 134 .iaload 1 135 := ⟨by decide +kernel, rfl⟩
theorem e_X10_chain_135 : kk_d cX10_chain 135 .iand 1 136 := ⟨by decide +kernel, rfl⟩
theorem e_X10_chain_136 : kk_d cX10_chain 136 (.invokestatic 155) 3 139 := ⟨by decide +kernel, rfl⟩
theorem e_X10_chain_139 : kk_d cX10_chain 139 (.invokestatic 227) 3 142 := ⟨by decide +kernel, rfl⟩
theorem e_X10_chain_142 : kk_d cX10_chain 142 .ireturn 1 143 := ⟨by decide +kernel, rfl⟩
theorem e_X10_chain_143 : kk_d cX10_chain 143 (.bipush (-2)) 2 145 := ⟨by decide +kernel, rfl⟩
theorem e_X10_chain_145 : kk_d cX10_chain 145 .ireturn 1 146 := ⟨by decide +kernel, rfl⟩
set_option maxRecDepth 4000 in
theorem s_X10_chain (Z : kk_Z) (v1 : Int32) (v2 : Int32) (v3 : Int32) (v4 : Int32) (σ : kk_St) (Q : Int32 → Prop) (h : f_X10_chain v1 v2 v3 v4 σ Q) : kk_M Z sh_C yX10_chain cX10_chain 7 (some .int) (kk_R 5) [.ref (Z.2.1 0), .int v1, .int v2, .int v3, .int v4] σ (kk_Qi Z sh_C (fun r σ' => σ' = σ ∧ Q r)) := by
  unfold f_X10_chain at h
  refine kk_met (own := RX10) (by decide) rfl (Nat.le_of_ble_eq_true rfl) rfl ?_
  refine kk_aload_n 0 rfl e_X10_chain_0 ?_
  refine kk_getr e_X10_chain_1 fl_X10_10 rfl rfl ?_
  refine kk_iload_n 1 rfl e_X10_chain_4 ?_
  refine kk_callVip (As := [.int v1]) (rest := []) e_X10_chain_5 ml_X10_108 ⟨_, _, _, _, rfl, rfl⟩ rfl (kk_fitR (by decide) (by decide)) (Nat.le_of_ble_eq_true rfl) rfl (s_X6_isPost Z v1 σ _ h) (fun r_1 h => ?_)
  refine kk_jW0 (P := KK Z sh_C RX10 cX10_chain 7 (some .int) (kk_R 5) (kk_Qi Z sh_C (fun r σ' => σ' = σ ∧ Q r)) 23 [] [] σ) h ?_ ?_
  · intro h
    refine kk_iconst ic_m1 e_X10_chain_23 ?_
    exact kk_iret e_X10_chain_24 ⟨rfl, h⟩
  · intro J_2 hJ_2 h
    refine kk_if_eq e_X10_chain_8 (fun c_16 => ?_) (fun c_16 => ?_)
    · replace h := h.1 c_16
      exact kk_sub [] rfl (hJ_2 h)
    · replace h := h.2 c_16
      refine kk_aload_n 0 rfl e_X10_chain_11 ?_
      refine kk_getr e_X10_chain_12 fl_X10_21 rfl rfl ?_
      refine kk_iload_n 2 rfl e_X10_chain_15 ?_
      refine kk_iload_n 3 rfl e_X10_chain_16 ?_
      refine kk_callVip (As := [.int v2, .int v3]) (rest := []) e_X10_chain_17 ml_X10_143 ⟨_, _, _, _, rfl, rfl⟩ rfl (kk_fitR (by decide) (by decide)) (Nat.le_of_ble_eq_true rfl) rfl (s_X3_areUnlike Z v2 v3 σ _ h) (fun r_3 h => ?_)
      refine kk_if_ne e_X10_chain_20 (fun c_15 => ?_) (fun c_15 => ?_)
      · replace h := h.1 c_15
        refine kk_aload_n 0 rfl e_X10_chain_25 ?_
        refine kk_getr e_X10_chain_26 fl_X10_21 rfl rfl ?_
        refine kk_iload_n 1 rfl e_X10_chain_29 ?_
        refine kk_iload_n 2 rfl e_X10_chain_30 ?_
        refine kk_iload_n 3 rfl e_X10_chain_31 ?_
        refine kk_callVip (As := [.int v1, .int v2, .int v3]) (rest := []) e_X10_chain_32 ml_X10_147 ⟨_, _, _, _, rfl, rfl⟩ rfl (kk_fitR (by decide) (by decide)) (Nat.le_of_ble_eq_true rfl) rfl (s_X3_chainOf Z v1 v2 v3 σ _ h) (fun r_4 h => ?_)
        refine kk_istore (lv' := [(5, .int r_4), (0, .ref (Z.2.1 0)), (1, .int v1), (2, .int v2), (3, .int v3), (4, .int v4)]) e_X10_chain_35 (by decide) rfl ?_
        refine kk_aload_n 1 rfl e_X10_chain_37 ?_
        refine kk_getr e_X10_chain_38 fl_X10_10 rfl rfl ?_
        refine kk_iload 0 rfl e_X10_chain_41 ?_
        refine kk_callVip (As := [.int r_4]) (rest := []) e_X10_chain_43 ml_X10_224 ⟨_, _, _, _, rfl, rfl⟩ rfl (kk_fitR (by decide) (by decide)) (Nat.le_of_ble_eq_true rfl) rfl (s_X6_postsOf Z r_4 σ _ h) (fun r_5 h => ?_)
        refine kk_iconst ic_1 e_X10_chain_46 ?_
        refine kk_iload_n 2 rfl e_X10_chain_47 ?_
        refine kk_ishl e_X10_chain_48 ?_
        refine kk_ior e_X10_chain_49 ?_
        refine kk_topi (fun v6_6 ev6_6 => ?_)
        replace h := h v6_6 ev6_6
        refine kk_istore (lv' := [(6, .int v6_6), (5, .int r_4), (0, .ref (Z.2.1 0)), (1, .int v1), (2, .int v2), (3, .int v3), (4, .int v4)]) e_X10_chain_50 (by decide) rfl ?_
        refine kk_iload 6 rfl e_X10_chain_52 ?_
        rcases kk_swc v4 4 (by decide) with ⟨i, hi, hx⟩ | hx
        · rcases (show i = 0 ∨ i = 1 ∨ i = 2 ∨ i = 3 by omega) with rfl | rfl | rfl | rfl
          · replace h := h.1 hx
            refine kk_swIn (tgt := 84) e_X10_chain_54 0 hx (by decide) (by decide) rfl (by decide) ?_
            refine kk_iload 1 rfl e_X10_chain_84 ?_
            exact kk_iret e_X10_chain_86 ⟨rfl, h⟩
          · replace h := h.2.1 hx
            refine kk_swIn (tgt := 87) e_X10_chain_54 1 hx (by decide) (by decide) rfl (by decide) ?_
            refine kk_iload 0 rfl e_X10_chain_87 ?_
            exact kk_iret e_X10_chain_89 ⟨rfl, h⟩
          · replace h := h.2.2.1 hx
            refine kk_swIn (tgt := 90) e_X10_chain_54 2 hx (by decide) (by decide) rfl (by decide) ?_
            refine kk_iload 1 rfl e_X10_chain_90 ?_
            refine kk_callSip (As := [.int r_4]) (rest := []) e_X10_chain_92 ml_X10_155 rfl (kk_fitR (by decide) (by decide)) (Nat.le_of_ble_eq_true rfl) rfl (s_J6_bitCount_0f7a4 Z r_4 σ _ h) (fun r_7 h => ?_)
            refine kk_iload 0 rfl e_X10_chain_95 ?_
            refine kk_callSip (As := [.int v6_6]) (rest := [.int r_7]) e_X10_chain_97 ml_X10_155 rfl (kk_fitR (by decide) (by decide)) (Nat.le_of_ble_eq_true rfl) rfl (s_J6_bitCount_0f7a4 Z v6_6 σ _ h) (fun r_8 h => ?_)
            refine kk_jW1 (P := fun (t_9 : Int32) => KK Z sh_C RX10 cX10_chain 7 (some .int) (kk_R 5) (kk_Qi Z sh_C (fun r σ' => σ' = σ ∧ Q r)) 108 [] [.int t_9] σ) h ?_ ?_
            · intro t_9 h
              exact kk_iret e_X10_chain_108 ⟨rfl, h⟩
            · intro J_10 hJ_10 h
              refine kk_icmp_ne e_X10_chain_100 (fun c_11 => ?_) (fun c_11 => ?_)
              · replace h := h.1 c_11
                refine kk_iconst ic_0 e_X10_chain_107 ?_
                exact kk_sub [] rfl (hJ_10 (0 : Int32) h)
              · replace h := h.2 c_11
                refine kk_iconst ic_1 e_X10_chain_103 ?_
                refine kk_goto e_X10_chain_104 ?_
                exact kk_sub [] rfl (hJ_10 (1 : Int32) h)
          · replace h := h.2.2.2.1 hx
            refine kk_swIn (tgt := 109) e_X10_chain_54 3 hx (by decide) (by decide) rfl (by decide) ?_
            refine kk_iload 1 rfl e_X10_chain_109 ?_
            refine kk_aload_n 2 rfl e_X10_chain_111 ?_
            refine kk_getr e_X10_chain_112 fl_X10_21 rfl rfl ?_
            refine kk_getr e_X10_chain_115 fl_X10_160 rfl rfl ?_
            refine kk_iload_n 4 rfl e_X10_chain_118 ?_
            refine kk_iald e_X10_chain_119 rfl h.1 ?_
            replace h := h.2
            refine kk_iand e_X10_chain_120 ?_
            refine kk_callSip (As := [.int (r_4 &&& (kk_rd σ 17 v2))]) (rest := []) e_X10_chain_121 ml_X10_155 rfl (kk_fitR (by decide) (by decide)) (Nat.le_of_ble_eq_true rfl) rfl (s_J6_bitCount_0f7a4 Z (r_4 &&& (kk_rd σ 17 v2)) σ _ h) (fun r_12 h => ?_)
            refine kk_iload 1 rfl e_X10_chain_124 ?_
            refine kk_aload_n 2 rfl e_X10_chain_126 ?_
            refine kk_getr e_X10_chain_127 fl_X10_21 rfl rfl ?_
            refine kk_getr e_X10_chain_130 fl_X10_160 rfl rfl ?_
            refine kk_iload_n 5 rfl e_X10_chain_133 ?_
            refine kk_iald e_X10_chain_134 rfl h.1 ?_
            replace h := h.2
            refine kk_iand e_X10_chain_135 ?_
            refine kk_callSip (As := [.int (r_4 &&& (kk_rd σ 17 v3))]) (rest := [.int r_12]) e_X10_chain_136 ml_X10_155 rfl (kk_fitR (by decide) (by decide)) (Nat.le_of_ble_eq_true rfl) rfl (s_J6_bitCount_0f7a4 Z (r_4 &&& (kk_rd σ 17 v3)) σ _ h) (fun r_13 h => ?_)
            refine kk_callSip (As := [.int r_12, .int r_13]) (rest := []) e_X10_chain_139 ml_X10_227 rfl (kk_fitR (by decide) (by decide)) (Nat.le_of_ble_eq_true rfl) rfl (s_J6_compare_7cf53 Z r_12 r_13 σ _ h) (fun r_14 h => ?_)
            exact kk_iret e_X10_chain_142 ⟨rfl, h⟩
        · replace h := h.2.2.2.2 (by omega)
          refine kk_swOut (tgt := 143) e_X10_chain_54 (by omega) (by decide) ?_
          refine kk_bipush bp_m2 e_X10_chain_143 ?_
          exact kk_iret e_X10_chain_145 ⟨rfl, h⟩
      · replace h := h.2 c_15
        exact kk_sub [] rfl (hJ_2 h)
theorem e_X2_countChains_0 : kk_d cX2_countChains 0 (.aload_n 0) 1 1 := ⟨by decide +kernel, rfl⟩
theorem e_X2_countChains_1 : kk_d cX2_countChains 1 (.getfield 15) 3 4 := ⟨by decide +kernel, rfl⟩
theorem e_X2_countChains_4 : kk_d cX2_countChains 4 (.getfield 19) 3 7 := ⟨by decide +kernel, rfl⟩
theorem e_X2_countChains_7 : kk_d cX2_countChains 7 (.iload_n 1) 1 8 := ⟨by decide +kernel, rfl⟩
theorem e_X2_countChains_8 : kk_d cX2_countChains 8 .iaload 1 9 := ⟨by decide +kernel, rfl⟩
theorem e_X2_countChains_9 : kk_d cX2_countChains 9 (.aload_n 0) 1 10 := ⟨by decide +kernel, rfl⟩
theorem e_X2_countChains_10 : kk_d cX2_countChains 10 (.getfield 15) 3 13 := ⟨by decide +kernel, rfl⟩
theorem e_X2_countChains_13 : kk_d cX2_countChains 13 (.getfield 19) 3 16 := ⟨by decide +kernel, rfl⟩
theorem e_X2_countChains_16 : kk_d cX2_countChains 16 (.iload_n 2) 1 17 := ⟨by decide +kernel, rfl⟩
theorem e_X2_countChains_17 : kk_d cX2_countChains 17 .iaload 1 18 := ⟨by decide +kernel, rfl⟩
theorem e_X2_countChains_18 : kk_d cX2_countChains 18 .ior 1 19 := ⟨by decide +kernel, rfl⟩
theorem e_X2_countChains_19 : kk_d cX2_countChains 19 (.istore_n 3) 1 20 := ⟨by decide +kernel, rfl⟩
theorem e_X2_countChains_20 : kk_d cX2_countChains 20 (.iload_n 3) 1 21 := ⟨by decide +kernel, rfl⟩
theorem e_X2_countChains_21 : kk_d cX2_countChains 21 (.istore 4) 2 23 := ⟨by decide +kernel, rfl⟩
theorem e_X2_countChains_23 : kk_d cX2_countChains 23 (.iconst 0) 1 24 := ⟨by decide +kernel, rfl⟩
theorem e_X2_countChains_24 : kk_d cX2_countChains 24 (.istore 5) 2 26 := ⟨by decide +kernel, rfl⟩
theorem e_X2_countChains_26 : kk_d cX2_countChains 26 (.iconst 0) 1 27 := ⟨by decide +kernel, rfl⟩
theorem e_X2_countChains_27 : kk_d cX2_countChains 27 (.istore 6) 2 29 := ⟨by decide +kernel, rfl⟩
theorem e_X2_countChains_29 : kk_d cX2_countChains 29 (.iload 6) 2 31 := ⟨by decide +kernel, rfl⟩
theorem e_X2_countChains_31 : kk_d cX2_countChains 31 (.aload_n 0) 1 32 := ⟨by decide +kernel, rfl⟩
theorem e_X2_countChains_32 : kk_d cX2_countChains 32 (.getfield 9) 3 35 := ⟨by decide +kernel, rfl⟩
theorem e_X2_countChains_35 : kk_d cX2_countChains 35 (.getfield 25) 3 38 := ⟨by decide +kernel, rfl⟩
theorem e_X2_countChains_38 : kk_dj cX2_countChains 38 (.if_icmp .ge 41) 3 (41) 41 79 := ⟨by decide +kernel, rfl, by decide⟩
theorem e_X2_countChains_79 : kk_d cX2_countChains 79 (.iload 5) 2 81 := ⟨by decide +kernel, rfl⟩
theorem e_X2_countChains_81 : kk_d cX2_countChains 81 .ireturn 1 82 := ⟨by decide +kernel, rfl⟩
theorem e_X2_countChains_41 : kk_d cX2_countChains 41 (.iload 4) 2 43 := ⟨by decide +kernel, rfl⟩
theorem e_X2_countChains_43 : kk_d cX2_countChains 43 (.iload 6) 2 45 := ⟨by decide +kernel, rfl⟩
theorem e_X2_countChains_45 : kk_d cX2_countChains 45 .ishr 1 46 := ⟨by decide +kernel, rfl⟩
theorem e_X2_countChains_46 : kk_d cX2_countChains 46 (.iconst 1) 1 47 := ⟨by decide +kernel, rfl⟩
theorem e_X2_countChains_47 : kk_d cX2_countChains 47 .iand 1 48 := ⟨by decide +kernel, rfl⟩
theorem e_X2_countChains_48 : kk_dj cX2_countChains 48 (.ifCond .eq 25) 3 (25) 51 73 := ⟨by decide +kernel, rfl, by decide⟩
theorem e_X2_countChains_73 : kk_d cX2_countChains 73 (.iinc 6 1) 3 76 := ⟨by decide +kernel, rfl⟩
theorem e_X2_countChains_76 : kk_dj cX2_countChains 76 (.goto (-47)) 3 (-47) 79 29 := ⟨by decide +kernel, rfl, by decide⟩
theorem e_X2_countChains_51 : kk_d cX2_countChains 51 (.iload 4) 2 53 := ⟨by decide +kernel, rfl⟩
theorem e_X2_countChains_53 : kk_d cX2_countChains 53 (.aload_n 0) 1 54 := ⟨by decide +kernel, rfl⟩
theorem e_X2_countChains_54 : kk_d cX2_countChains 54 (.getfield 9) 3 57 := ⟨by decide +kernel, rfl⟩
theorem e_X2_countChains_57 : kk_d cX2_countChains 57 (.iconst 1) 1 58 := ⟨by decide +kernel, rfl⟩
theorem e_X2_countChains_58 : kk_d cX2_countChains 58 (.iload 6) 2 60 := ⟨by decide +kernel, rfl⟩
theorem e_X2_countChains_60 : kk_d cX2_countChains 60 .ishl 1 61 := ⟨by decide +kernel, rfl⟩
theorem e_X2_countChains_61 : kk_d cX2_countChains 61 (.iload_n 3) 1 62 := ⟨by decide +kernel, rfl⟩
theorem e_X2_countChains_62 : kk_d cX2_countChains 62 (.invokevirtual 31) 3 65 := ⟨by decide +kernel, rfl⟩
theorem e_X2_countChains_65 : kk_d cX2_countChains 65 (.iconst (-1)) 1 66 := ⟨by decide +kernel, rfl⟩
theorem e_X2_countChains_66 : kk_d cX2_countChains 66 .ixor 1 67 := ⟨by decide +kernel, rfl⟩
theorem e_X2_countChains_67 : kk_d cX2_countChains 67 .iand 1 68 := ⟨by decide +kernel, rfl⟩
theorem e_X2_countChains_68 : kk_d cX2_countChains 68 (.istore 4) 2 70 := ⟨by decide +kernel, rfl⟩
theorem e_X2_countChains_70 : kk_d cX2_countChains 70 (.iinc 5 1) 3 73 := ⟨by decide +kernel, rfl⟩
set_option maxRecDepth 4000 in
theorem s_X2_countChains (Z : kk_Z) (v1 : Int32) (v2 : Int32) (σ : kk_St) (Q : Int32 → Prop) (h : f_X2_countChains v1 v2 σ Q) : kk_M Z sh_C yX2_countChains cX2_countChains 7 (some .int) (kk_R 4) [.ref (Z.2.1 5), .int v1, .int v2] σ (kk_Qi Z sh_C (fun r σ' => σ' = σ ∧ Q r)) := by
  unfold f_X2_countChains at h
  refine kk_met (own := RX2) (by decide) rfl (Nat.le_of_ble_eq_true rfl) rfl ?_
  refine kk_aload_n 0 rfl e_X2_countChains_0 ?_
  refine kk_getr e_X2_countChains_1 fl_X2_15 rfl rfl ?_
  refine kk_getr e_X2_countChains_4 fl_X2_19 rfl rfl ?_
  refine kk_iload_n 1 rfl e_X2_countChains_7 ?_
  refine kk_iald e_X2_countChains_8 rfl h.1 ?_
  replace h := h.2
  refine kk_aload_n 0 rfl e_X2_countChains_9 ?_
  refine kk_getr e_X2_countChains_10 fl_X2_15 rfl rfl ?_
  refine kk_getr e_X2_countChains_13 fl_X2_19 rfl rfl ?_
  refine kk_iload_n 2 rfl e_X2_countChains_16 ?_
  refine kk_iald e_X2_countChains_17 rfl h.1 ?_
  replace h := h.2
  refine kk_ior e_X2_countChains_18 ?_
  refine kk_topi (fun v3_1 ev3_1 => ?_)
  replace h := h v3_1 ev3_1
  refine kk_istore_n (lv' := [(3, .int v3_1), (0, .ref (Z.2.1 5)), (1, .int v1), (2, .int v2)]) e_X2_countChains_19 rfl (by decide) rfl ?_
  refine kk_iload_n 0 rfl e_X2_countChains_20 ?_
  refine kk_istore (lv' := [(4, .int v3_1), (3, .int v3_1), (0, .ref (Z.2.1 5)), (1, .int v1), (2, .int v2)]) e_X2_countChains_21 (by decide) rfl ?_
  refine kk_iconst ic_0 e_X2_countChains_23 ?_
  refine kk_istore (lv' := [(5, .int (0 : Int32)), (4, .int v3_1), (3, .int v3_1), (0, .ref (Z.2.1 5)), (1, .int v1), (2, .int v2)]) e_X2_countChains_24 (by decide) rfl ?_
  refine kk_iconst ic_0 e_X2_countChains_26 ?_
  refine kk_istore (lv' := [(6, .int (0 : Int32)), (5, .int (0 : Int32)), (4, .int v3_1), (3, .int v3_1), (0, .ref (Z.2.1 5)), (1, .int v1), (2, .int v2)]) e_X2_countChains_27 (by decide) rfl ?_
  refine kk_sub [4, 3, 2, 1, 0] rfl ?_
  refine kk_lpW3 (P := fun (v4_2 : Int32) (v5_3 : Int32) (v6_4 : Int32) => KK Z sh_C RX2 cX2_countChains 7 (some .int) (kk_R 4) (kk_Qi Z sh_C (fun r σ' => σ' = σ ∧ Q r)) 29 [(0, .ref (Z.2.1 5)), (3, .int v3_1), (4, .int v4_2), (5, .int v5_3), (6, .int v6_4)] [] σ) ?_ h
  intro rec_5 hrec_5 v4_2 v5_3 v6_4 h
  refine kk_iload 4 rfl e_X2_countChains_29 ?_
  refine kk_aload_n 0 rfl e_X2_countChains_31 ?_
  refine kk_getr e_X2_countChains_32 fl_X2_9 rfl rfl ?_
  refine kk_geti e_X2_countChains_35 fl_X2_25 rfl rfl ?_
  refine kk_icmp_ge e_X2_countChains_38 (fun c_12 => ?_) (fun c_12 => ?_)
  · replace h := h.1 c_12
    refine kk_iload 3 rfl e_X2_countChains_79 ?_
    exact kk_iret e_X2_countChains_81 ⟨rfl, h⟩
  · replace h := h.2 c_12
    refine kk_iload 2 rfl e_X2_countChains_41 ?_
    refine kk_iload 4 rfl e_X2_countChains_43 ?_
    refine kk_ishr e_X2_countChains_45 ?_
    refine kk_iconst ic_1 e_X2_countChains_46 ?_
    refine kk_iand e_X2_countChains_47 ?_
    refine kk_jW2 (P := fun (v4_6 : Int32) (v5_7 : Int32) => KK Z sh_C RX2 cX2_countChains 7 (some .int) (kk_R 4) (kk_Qi Z sh_C (fun r σ' => σ' = σ ∧ Q r)) 73 [(0, .ref (Z.2.1 5)), (3, .int v3_1), (4, .int v4_6), (5, .int v5_7), (6, .int v6_4)] [] σ) h ?_ ?_
    · intro v4_6 v5_7 h
      refine kk_iinc (lv' := [(6, .int (v6_4 + (1 : Int32))), (0, .ref (Z.2.1 5)), (3, .int v3_1), (4, .int v4_6), (5, .int v5_7)]) e_X2_countChains_73 (j := 4) rfl (ii_1 v6_4) (by decide) rfl ?_
      refine kk_goto e_X2_countChains_76 ?_
      exact kk_sub [1, 2, 3, 4, 0] rfl (hrec_5 v4_6 v5_7 (v6_4 + (1 : Int32)) h)
    · intro J_8 hJ_8 h
      refine kk_if_eq e_X2_countChains_48 (fun c_11 => ?_) (fun c_11 => ?_)
      · replace h := h.1 c_11
        exact kk_sub [0, 1, 2, 3, 4] rfl (hJ_8 v4_2 v5_3 h)
      · replace h := h.2 c_11
        refine kk_iload 2 rfl e_X2_countChains_51 ?_
        refine kk_aload_n 0 rfl e_X2_countChains_53 ?_
        refine kk_getr e_X2_countChains_54 fl_X2_9 rfl rfl ?_
        refine kk_iconst ic_1 e_X2_countChains_57 ?_
        refine kk_iload 4 rfl e_X2_countChains_58 ?_
        refine kk_ishl e_X2_countChains_60 ?_
        refine kk_iload_n 1 rfl e_X2_countChains_61 ?_
        refine kk_callVip (As := [.int ((1 : Int32) <<< (v6_4 &&& 31)), .int v3_1]) (rest := [.int v4_2]) e_X2_countChains_62 ml_X2_31 ⟨_, _, _, _, rfl, rfl⟩ rfl (kk_fitR (by decide) (by decide)) (Nat.le_of_ble_eq_true rfl) rfl (s_X6_joined Z ((1 : Int32) <<< (v6_4 &&& 31)) v3_1 σ _ h) (fun r_9 h => ?_)
        refine kk_iconst ic_m1 e_X2_countChains_65 ?_
        refine kk_ixor e_X2_countChains_66 ?_
        refine kk_iand e_X2_countChains_67 ?_
        refine kk_topi (fun v4_10 ev4_10 => ?_)
        replace h := h v4_10 ev4_10
        refine kk_istore (lv' := [(4, .int v4_10), (0, .ref (Z.2.1 5)), (3, .int v3_1), (5, .int v5_3), (6, .int v6_4)]) e_X2_countChains_68 (by decide) rfl ?_
        refine kk_iinc (lv' := [(5, .int (v5_3 + (1 : Int32))), (4, .int v4_10), (0, .ref (Z.2.1 5)), (3, .int v3_1), (6, .int v6_4)]) e_X2_countChains_70 (j := 3) rfl (ii_1 v5_3) (by decide) rfl ?_
        exact kk_sub [2, 3, 1, 0, 4] rfl (hJ_8 v4_10 (v5_3 + (1 : Int32)) h)
theorem e_X10_chains_0 : kk_d cX10_chains 0 (.aload_n 0) 1 1 := ⟨by decide +kernel, rfl⟩
theorem e_X10_chains_1 : kk_d cX10_chains 1 (.getfield 21) 3 4 := ⟨by decide +kernel, rfl⟩
theorem e_X10_chains_4 : kk_d cX10_chains 4 (.iload_n 1) 1 5 := ⟨by decide +kernel, rfl⟩
theorem e_X10_chains_5 : kk_d cX10_chains 5 (.iload_n 2) 1 6 := ⟨by decide +kernel, rfl⟩
theorem e_X10_chains_6 : kk_d cX10_chains 6 (.invokevirtual 143) 3 9 := ⟨by decide +kernel, rfl⟩
theorem e_X10_chains_9 : kk_dj cX10_chains 9 (.ifCond .eq 15) 3 (15) 12 24 := ⟨by decide +kernel, rfl, by decide⟩
theorem e_X10_chains_25 : kk_d cX10_chains 25 .ireturn 1 26 := ⟨by decide +kernel, rfl⟩
theorem e_X10_chains_24 : kk_d cX10_chains 24 (.iconst (-1)) 1 25 := ⟨by decide +kernel, rfl⟩
theorem e_X10_chains_12 : kk_d cX10_chains 12 (.aload_n 0) 1 13 := ⟨by decide +kernel, rfl⟩
theorem e_X10_chains_13 : kk_d cX10_chains 13 (.getfield 46) 3 16 := ⟨by decide +kernel, rfl⟩
theorem e_X10_chains_16 : kk_d cX10_chains 16 (.iload_n 1) 1 17 := ⟨by decide +kernel, rfl⟩
theorem e_X10_chains_17 : kk_d cX10_chains 17 (.iload_n 2) 1 18 := ⟨by decide +kernel, rfl⟩
theorem e_X10_chains_18 : kk_d cX10_chains 18 (.invokevirtual 311) 3 21 := ⟨by decide +kernel, rfl⟩
theorem e_X10_chains_21 : kk_dj cX10_chains 21 (.goto 4) 3 (4) 24 25 := ⟨by decide +kernel, rfl, by decide⟩
set_option maxRecDepth 4000 in
theorem s_X10_chains (Z : kk_Z) (v1 : Int32) (v2 : Int32) (σ : kk_St) (Q : Int32 → Prop) (h : f_X10_chains v1 v2 σ Q) : kk_M Z sh_C yX10_chains cX10_chains 3 (some .int) (kk_R 5) [.ref (Z.2.1 0), .int v1, .int v2] σ (kk_Qi Z sh_C (fun r σ' => σ' = σ ∧ Q r)) := by
  unfold f_X10_chains at h
  refine kk_met (own := RX10) (by decide) rfl (Nat.le_of_ble_eq_true rfl) rfl ?_
  refine kk_aload_n 0 rfl e_X10_chains_0 ?_
  refine kk_getr e_X10_chains_1 fl_X10_21 rfl rfl ?_
  refine kk_iload_n 1 rfl e_X10_chains_4 ?_
  refine kk_iload_n 2 rfl e_X10_chains_5 ?_
  refine kk_callVip (As := [.int v1, .int v2]) (rest := []) e_X10_chains_6 ml_X10_143 ⟨_, _, _, _, rfl, rfl⟩ rfl (kk_fitR (by decide) (by decide)) (Nat.le_of_ble_eq_true rfl) rfl (s_X3_areUnlike Z v1 v2 σ _ h) (fun r_1 h => ?_)
  refine kk_jW1 (P := fun (t_2 : Int32) => KK Z sh_C RX10 cX10_chains 3 (some .int) (kk_R 5) (kk_Qi Z sh_C (fun r σ' => σ' = σ ∧ Q r)) 25 [] [.int t_2] σ) h ?_ ?_
  · intro t_2 h
    exact kk_iret e_X10_chains_25 ⟨rfl, h⟩
  · intro J_3 hJ_3 h
    refine kk_if_eq e_X10_chains_9 (fun c_5 => ?_) (fun c_5 => ?_)
    · replace h := h.1 c_5
      refine kk_iconst ic_m1 e_X10_chains_24 ?_
      exact kk_sub [] rfl (hJ_3 (-1 : Int32) h)
    · replace h := h.2 c_5
      refine kk_aload_n 0 rfl e_X10_chains_12 ?_
      refine kk_getr e_X10_chains_13 fl_X10_46 rfl rfl ?_
      refine kk_iload_n 1 rfl e_X10_chains_16 ?_
      refine kk_iload_n 2 rfl e_X10_chains_17 ?_
      refine kk_callVip (As := [.int v1, .int v2]) (rest := []) e_X10_chains_18 ml_X10_311 ⟨_, _, _, _, rfl, rfl⟩ rfl (kk_fitR (by decide) (by decide)) (Nat.le_of_ble_eq_true rfl) rfl (s_X2_countChains Z v1 v2 σ _ h) (fun r_4 h => ?_)
      refine kk_goto e_X10_chains_21 ?_
      exact kk_sub [] rfl (hJ_3 r_4 h)
theorem e_X3_lineWith_0 : kk_d cX3_lineWith 0 (.aload_n 0) 1 1 := ⟨by decide +kernel, rfl⟩
theorem e_X3_lineWith_1 : kk_d cX3_lineWith 1 (.getfield 18) 3 4 := ⟨by decide +kernel, rfl⟩
theorem e_X3_lineWith_4 : kk_d cX3_lineWith 4 (.getfield 60) 3 7 := ⟨by decide +kernel, rfl⟩
theorem e_X3_lineWith_7 : kk_d cX3_lineWith 7 (.iload_n 1) 1 8 := ⟨by decide +kernel, rfl⟩
theorem e_X3_lineWith_8 : kk_d cX3_lineWith 8 .iaload 1 9 := ⟨by decide +kernel, rfl⟩
theorem e_X3_lineWith_9 : kk_d cX3_lineWith 9 (.aload_n 0) 1 10 := ⟨by decide +kernel, rfl⟩
theorem e_X3_lineWith_10 : kk_d cX3_lineWith 10 (.getfield 15) 3 13 := ⟨by decide +kernel, rfl⟩
theorem e_X3_lineWith_13 : kk_d cX3_lineWith 13 (.iload_n 2) 1 14 := ⟨by decide +kernel, rfl⟩
theorem e_X3_lineWith_14 : kk_d cX3_lineWith 14 .iaload 1 15 := ⟨by decide +kernel, rfl⟩
theorem e_X3_lineWith_15 : kk_d cX3_lineWith 15 .iand 1 16 := ⟨by decide +kernel, rfl⟩
theorem e_X3_lineWith_16 : kk_d cX3_lineWith 16 (.istore_n 3) 1 17 := ⟨by decide +kernel, rfl⟩
theorem e_X3_lineWith_17 : kk_d cX3_lineWith 17 (.iload_n 3) 1 18 := ⟨by decide +kernel, rfl⟩
theorem e_X3_lineWith_18 : kk_dj cX3_lineWith 18 (.ifCond .ne 7) 3 (7) 21 25 := ⟨by decide +kernel, rfl, by decide⟩
theorem e_X3_lineWith_29 : kk_d cX3_lineWith 29 .ireturn 1 30 := ⟨by decide +kernel, rfl⟩
theorem e_X3_lineWith_25 : kk_d cX3_lineWith 25 (.iload_n 3) 1 26 := ⟨by decide +kernel, rfl⟩
theorem e_X3_lineWith_26 : kk_d cX3_lineWith 26 (.invokestatic 75) 3 29 := ⟨by decide +kernel, rfl⟩
theorem e_X3_lineWith_21 : kk_d cX3_lineWith 21 (.iconst (-1)) 1 22 := ⟨by decide +kernel, rfl⟩
theorem e_X3_lineWith_22 : kk_dj cX3_lineWith 22 (.goto 7) 3 (7) 25 29 := ⟨by decide +kernel, rfl, by decide⟩
set_option maxRecDepth 4000 in
theorem s_X3_lineWith (Z : kk_Z) (v1 : Int32) (v2 : Int32) (σ : kk_St) (Q : Int32 → Prop) (h : f_X3_lineWith v1 v2 σ Q) : kk_M Z sh_C yX3_lineWith cX3_lineWith 4 (some .int) (kk_R 3) [.ref (Z.2.1 2), .int v1, .int v2] σ (kk_Qi Z sh_C (fun r σ' => σ' = σ ∧ Q r)) := by
  unfold f_X3_lineWith at h
  refine kk_met (own := RX3) (by decide) rfl (Nat.le_of_ble_eq_true rfl) rfl ?_
  refine kk_aload_n 0 rfl e_X3_lineWith_0 ?_
  refine kk_getr e_X3_lineWith_1 fl_X3_18 rfl rfl ?_
  refine kk_getr e_X3_lineWith_4 fl_X3_60 rfl rfl ?_
  refine kk_iload_n 1 rfl e_X3_lineWith_7 ?_
  refine kk_iald e_X3_lineWith_8 rfl h.1 ?_
  replace h := h.2
  refine kk_aload_n 0 rfl e_X3_lineWith_9 ?_
  refine kk_getr e_X3_lineWith_10 fl_X3_15 rfl rfl ?_
  refine kk_iload_n 2 rfl e_X3_lineWith_13 ?_
  refine kk_iald e_X3_lineWith_14 rfl h.1 ?_
  replace h := h.2
  refine kk_iand e_X3_lineWith_15 ?_
  refine kk_topi (fun v3_1 ev3_1 => ?_)
  replace h := h v3_1 ev3_1
  refine kk_istore_n (lv' := [(3, .int v3_1), (0, .ref (Z.2.1 2)), (1, .int v1), (2, .int v2)]) e_X3_lineWith_16 rfl (by decide) rfl ?_
  refine kk_iload_n 0 rfl e_X3_lineWith_17 ?_
  refine kk_jW1 (P := fun (t_2 : Int32) => KK Z sh_C RX3 cX3_lineWith 4 (some .int) (kk_R 3) (kk_Qi Z sh_C (fun r σ' => σ' = σ ∧ Q r)) 29 [] [.int t_2] σ) h ?_ ?_
  · intro t_2 h
    exact kk_iret e_X3_lineWith_29 ⟨rfl, h⟩
  · intro J_3 hJ_3 h
    refine kk_if_ne e_X3_lineWith_18 (fun c_5 => ?_) (fun c_5 => ?_)
    · replace h := h.1 c_5
      refine kk_iload_n 0 rfl e_X3_lineWith_25 ?_
      refine kk_callSip (As := [.int v3_1]) (rest := []) e_X3_lineWith_26 ml_X3_75 rfl (kk_fitR (by decide) (by decide)) (Nat.le_of_ble_eq_true rfl) rfl (s_J6_numberOfTrailingZeros_0f7a4 Z v3_1 σ _ h) (fun r_4 h => ?_)
      exact kk_sub [] rfl (hJ_3 r_4 h)
    · replace h := h.2 c_5
      refine kk_iconst ic_m1 e_X3_lineWith_21 ?_
      refine kk_goto e_X3_lineWith_22 ?_
      exact kk_sub [] rfl (hJ_3 (-1 : Int32) h)
theorem e_X10_clash_0 : kk_d cX10_clash 0 (.aload_n 0) 1 1 := ⟨by decide +kernel, rfl⟩
theorem e_X10_clash_1 : kk_d cX10_clash 1 (.getfield 10) 3 4 := ⟨by decide +kernel, rfl⟩
theorem e_X10_clash_4 : kk_d cX10_clash 4 (.iload_n 1) 1 5 := ⟨by decide +kernel, rfl⟩
theorem e_X10_clash_5 : kk_d cX10_clash 5 (.invokevirtual 124) 3 8 := ⟨by decide +kernel, rfl⟩
theorem e_X10_clash_8 : kk_dj cX10_clash 8 (.ifCond .eq 14) 3 (14) 11 22 := ⟨by decide +kernel, rfl, by decide⟩
theorem e_X10_clash_22 : kk_d cX10_clash 22 (.iconst (-1)) 1 23 := ⟨by decide +kernel, rfl⟩
theorem e_X10_clash_23 : kk_d cX10_clash 23 .ireturn 1 24 := ⟨by decide +kernel, rfl⟩
theorem e_X10_clash_11 : kk_d cX10_clash 11 (.aload_n 0) 1 12 := ⟨by decide +kernel, rfl⟩
theorem e_X10_clash_12 : kk_d cX10_clash 12 (.getfield 21) 3 15 := ⟨by decide +kernel, rfl⟩
theorem e_X10_clash_15 : kk_d cX10_clash 15 (.iload_n 2) 1 16 := ⟨by decide +kernel, rfl⟩
theorem e_X10_clash_16 : kk_d cX10_clash 16 (.invokevirtual 127) 3 19 := ⟨by decide +kernel, rfl⟩
theorem e_X10_clash_19 : kk_dj cX10_clash 19 (.ifCond .ne 5) 3 (5) 22 24 := ⟨by decide +kernel, rfl, by decide⟩
theorem e_X10_clash_24 : kk_d cX10_clash 24 (.aload_n 0) 1 25 := ⟨by decide +kernel, rfl⟩
theorem e_X10_clash_25 : kk_d cX10_clash 25 (.getfield 21) 3 28 := ⟨by decide +kernel, rfl⟩
theorem e_X10_clash_28 : kk_d cX10_clash 28 (.getfield 137) 3 31 := ⟨by decide +kernel, rfl⟩
theorem e_X10_clash_31 : kk_d cX10_clash 31 (.iload_n 1) 1 32 := ⟨by decide +kernel, rfl⟩
theorem e_X10_clash_32 : kk_d cX10_clash 32 .iaload 1 33 := ⟨by decide +kernel, rfl⟩
theorem e_X10_clash_33 : kk_d cX10_clash 33 (.iload_n 2) 1 34 := ⟨by decide +kernel, rfl⟩
theorem e_X10_clash_34 : kk_dj cX10_clash 34 (.if_icmp .ne 5) 3 (5) 37 39 := ⟨by decide +kernel, rfl, by decide⟩
theorem e_X10_clash_39 : kk_d cX10_clash 39 (.aload_n 0) 1 40 := ⟨by decide +kernel, rfl⟩
theorem e_X10_clash_40 : kk_d cX10_clash 40 (.getfield 21) 3 43 := ⟨by decide +kernel, rfl⟩
theorem e_X10_clash_43 : kk_d cX10_clash 43 (.aload_n 0) 1 44 := ⟨by decide +kernel, rfl⟩
theorem e_X10_clash_44 : kk_d cX10_clash 44 (.getfield 10) 3 47 := ⟨by decide +kernel, rfl⟩
theorem e_X10_clash_47 : kk_d cX10_clash 47 (.getfield 197) 3 50 := ⟨by decide +kernel, rfl⟩
theorem e_X10_clash_50 : kk_d cX10_clash 50 (.iload_n 1) 1 51 := ⟨by decide +kernel, rfl⟩
theorem e_X10_clash_51 : kk_d cX10_clash 51 .iaload 1 52 := ⟨by decide +kernel, rfl⟩
theorem e_X10_clash_52 : kk_d cX10_clash 52 (.iload_n 2) 1 53 := ⟨by decide +kernel, rfl⟩
theorem e_X10_clash_53 : kk_d cX10_clash 53 (.invokevirtual 206) 3 56 := ⟨by decide +kernel, rfl⟩
theorem e_X10_clash_56 : kk_d cX10_clash 56 (.istore_n 3) 1 57 := ⟨by decide +kernel, rfl⟩
theorem e_X10_clash_57 : kk_d cX10_clash 57 (.iload_n 3) 1 58 := ⟨by decide +kernel, rfl⟩
theorem e_X10_clash_58 : kk_d cX10_clash 58 (.iconst (-1)) 1 59 := ⟨by decide +kernel, rfl⟩
theorem e_X10_clash_59 : kk_dj cX10_clash 59 (.if_icmp .eq 5) 3 (5) 62 64 := ⟨by decide +kernel, rfl, by decide⟩
theorem e_X10_clash_64 : kk_d cX10_clash 64 (.aload_n 0) 1 65 := ⟨by decide +kernel, rfl⟩
theorem e_X10_clash_65 : kk_d cX10_clash 65 (.getfield 21) 3 68 := ⟨by decide +kernel, rfl⟩
theorem e_X10_clash_68 : kk_d cX10_clash 68 (.aload_n 0) 1 69 := ⟨by decide +kernel, rfl⟩
theorem e_X10_clash_69 : kk_d cX10_clash 69 (.getfield 10) 3 72 := ⟨by decide +kernel, rfl⟩
theorem e_X10_clash_72 : kk_d cX10_clash 72 (.getfield 200) 3 75 := ⟨by decide +kernel, rfl⟩
theorem e_X10_clash_75 : kk_d cX10_clash 75 (.iload_n 1) 1 76 := ⟨by decide +kernel, rfl⟩
theorem e_X10_clash_76 : kk_d cX10_clash 76 .iaload 1 77 := ⟨by decide +kernel, rfl⟩
theorem e_X10_clash_77 : kk_d cX10_clash 77 (.iload_n 2) 1 78 := ⟨by decide +kernel, rfl⟩
theorem e_X10_clash_78 : kk_d cX10_clash 78 (.invokevirtual 206) 3 81 := ⟨by decide +kernel, rfl⟩
theorem e_X10_clash_81 : kk_d cX10_clash 81 (.istore 4) 2 83 := ⟨by decide +kernel, rfl⟩
theorem e_X10_clash_83 : kk_d cX10_clash 83 (.iload 4) 2 85 := ⟨by decide +kernel, rfl⟩
theorem e_X10_clash_85 : kk_d cX10_clash 85 (.iconst (-1)) 1 86 := ⟨by decide +kernel, rfl⟩
theorem e_X10_clash_86 : kk_dj cX10_clash 86 (.if_icmp .eq 8) 3 (8) 89 94 := ⟨by decide +kernel, rfl, by decide⟩
theorem e_X10_clash_96 : kk_d cX10_clash 96 .ireturn 1 97 := ⟨by decide +kernel, rfl⟩
theorem e_X10_clash_94 : kk_d cX10_clash 94 (.bipush (-2)) 2 96 := ⟨by decide +kernel, rfl⟩
theorem e_X10_clash_89 : kk_d cX10_clash 89 (.iload 4) 2 91 := ⟨by decide +kernel, rfl⟩
theorem e_X10_clash_91 : kk_dj cX10_clash 91 (.goto 5) 3 (5) 94 96 := ⟨by decide +kernel, rfl, by decide⟩
theorem e_X10_clash_62 : kk_d cX10_clash 62 (.iload_n 3) 1 63 := ⟨by decide +kernel, rfl⟩
theorem e_X10_clash_63 : kk_d cX10_clash 63 .ireturn 1 64 := ⟨by decide +kernel, rfl⟩
theorem e_X10_clash_37 : kk_d cX10_clash 37 (.iload_n 1) 1 38 := ⟨by decide +kernel, rfl⟩
theorem e_X10_clash_38 : kk_d cX10_clash 38 .ireturn 1 39 := ⟨by decide +kernel, rfl⟩
set_option maxRecDepth 4000 in
theorem s_X10_clash (Z : kk_Z) (v1 : Int32) (v2 : Int32) (σ : kk_St) (Q : Int32 → Prop) (h : f_X10_clash v1 v2 σ Q) : kk_M Z sh_C yX10_clash cX10_clash 5 (some .int) (kk_R 4) [.ref (Z.2.1 0), .int v1, .int v2] σ (kk_Qi Z sh_C (fun r σ' => σ' = σ ∧ Q r)) := by
  unfold f_X10_clash at h
  refine kk_met (own := RX10) (by decide) rfl (Nat.le_of_ble_eq_true rfl) rfl ?_
  refine kk_aload_n 0 rfl e_X10_clash_0 ?_
  refine kk_getr e_X10_clash_1 fl_X10_10 rfl rfl ?_
  refine kk_iload_n 1 rfl e_X10_clash_4 ?_
  refine kk_callVip (As := [.int v1]) (rest := []) e_X10_clash_5 ml_X10_124 ⟨_, _, _, _, rfl, rfl⟩ rfl (kk_fitR (by decide) (by decide)) (Nat.le_of_ble_eq_true rfl) rfl (s_X6_isLine Z v1 σ _ h) (fun r_1 h => ?_)
  refine kk_jW0 (P := KK Z sh_C RX10 cX10_clash 5 (some .int) (kk_R 4) (kk_Qi Z sh_C (fun r σ' => σ' = σ ∧ Q r)) 22 [] [] σ) h ?_ ?_
  · intro h
    refine kk_iconst ic_m1 e_X10_clash_22 ?_
    exact kk_iret e_X10_clash_23 ⟨rfl, h⟩
  · intro J_2 hJ_2 h
    refine kk_if_eq e_X10_clash_8 (fun c_12 => ?_) (fun c_12 => ?_)
    · replace h := h.1 c_12
      exact kk_sub [] rfl (hJ_2 h)
    · replace h := h.2 c_12
      refine kk_aload_n 0 rfl e_X10_clash_11 ?_
      refine kk_getr e_X10_clash_12 fl_X10_21 rfl rfl ?_
      refine kk_iload_n 2 rfl e_X10_clash_15 ?_
      refine kk_callVip (As := [.int v2]) (rest := []) e_X10_clash_16 ml_X10_127 ⟨_, _, _, _, rfl, rfl⟩ rfl (kk_fitR (by decide) (by decide)) (Nat.le_of_ble_eq_true rfl) rfl (s_X3_isColour Z v2 σ _ h) (fun r_3 h => ?_)
      refine kk_if_ne e_X10_clash_19 (fun c_11 => ?_) (fun c_11 => ?_)
      · replace h := h.1 c_11
        refine kk_aload_n 0 rfl e_X10_clash_24 ?_
        refine kk_getr e_X10_clash_25 fl_X10_21 rfl rfl ?_
        refine kk_getr e_X10_clash_28 fl_X10_137 rfl rfl ?_
        refine kk_iload_n 1 rfl e_X10_clash_31 ?_
        refine kk_iald e_X10_clash_32 rfl h.1 ?_
        replace h := h.2
        refine kk_iload_n 2 rfl e_X10_clash_33 ?_
        refine kk_icmp_ne e_X10_clash_34 (fun c_10 => ?_) (fun c_10 => ?_)
        · replace h := h.1 c_10
          refine kk_aload_n 0 rfl e_X10_clash_39 ?_
          refine kk_getr e_X10_clash_40 fl_X10_21 rfl rfl ?_
          refine kk_aload_n 0 rfl e_X10_clash_43 ?_
          refine kk_getr e_X10_clash_44 fl_X10_10 rfl rfl ?_
          refine kk_getr e_X10_clash_47 fl_X10_197 rfl rfl ?_
          refine kk_iload_n 1 rfl e_X10_clash_50 ?_
          refine kk_iald e_X10_clash_51 rfl h.1 ?_
          replace h := h.2
          refine kk_iload_n 2 rfl e_X10_clash_52 ?_
          refine kk_callVip (As := [.int (kk_rd σ 11 v1), .int v2]) (rest := []) e_X10_clash_53 ml_X10_206 ⟨_, _, _, _, rfl, rfl⟩ rfl (kk_fitR (by decide) (by decide)) (Nat.le_of_ble_eq_true rfl) rfl (s_X3_lineWith Z (kk_rd σ 11 v1) v2 σ _ h) (fun r_4 h => ?_)
          refine kk_istore_n (lv' := [(3, .int r_4), (0, .ref (Z.2.1 0)), (1, .int v1), (2, .int v2)]) e_X10_clash_56 rfl (by decide) rfl ?_
          refine kk_iload_n 0 rfl e_X10_clash_57 ?_
          refine kk_iconst ic_m1 e_X10_clash_58 ?_
          refine kk_icmp_eq e_X10_clash_59 (fun c_9 => ?_) (fun c_9 => ?_)
          · replace h := h.1 c_9
            refine kk_aload_n 1 rfl e_X10_clash_64 ?_
            refine kk_getr e_X10_clash_65 fl_X10_21 rfl rfl ?_
            refine kk_aload_n 1 rfl e_X10_clash_68 ?_
            refine kk_getr e_X10_clash_69 fl_X10_10 rfl rfl ?_
            refine kk_getr e_X10_clash_72 fl_X10_200 rfl rfl ?_
            refine kk_iload_n 2 rfl e_X10_clash_75 ?_
            refine kk_iald e_X10_clash_76 rfl h.1 ?_
            replace h := h.2
            refine kk_iload_n 3 rfl e_X10_clash_77 ?_
            refine kk_callVip (As := [.int (kk_rd σ 12 v1), .int v2]) (rest := []) e_X10_clash_78 ml_X10_206 ⟨_, _, _, _, rfl, rfl⟩ rfl (kk_fitR (by decide) (by decide)) (Nat.le_of_ble_eq_true rfl) rfl (s_X3_lineWith Z (kk_rd σ 12 v1) v2 σ _ h) (fun r_5 h => ?_)
            refine kk_istore (lv' := [(4, .int r_5), (3, .int r_4), (0, .ref (Z.2.1 0)), (1, .int v1), (2, .int v2)]) e_X10_clash_81 (by decide) rfl ?_
            refine kk_iload 0 rfl e_X10_clash_83 ?_
            refine kk_iconst ic_m1 e_X10_clash_85 ?_
            refine kk_jW1 (P := fun (t_6 : Int32) => KK Z sh_C RX10 cX10_clash 5 (some .int) (kk_R 4) (kk_Qi Z sh_C (fun r σ' => σ' = σ ∧ Q r)) 96 [] [.int t_6] σ) h ?_ ?_
            · intro t_6 h
              exact kk_iret e_X10_clash_96 ⟨rfl, h⟩
            · intro J_7 hJ_7 h
              refine kk_icmp_eq e_X10_clash_86 (fun c_8 => ?_) (fun c_8 => ?_)
              · replace h := h.1 c_8
                refine kk_bipush bp_m2 e_X10_clash_94 ?_
                exact kk_sub [] rfl (hJ_7 (-2 : Int32) h)
              · replace h := h.2 c_8
                refine kk_iload 0 rfl e_X10_clash_89 ?_
                refine kk_goto e_X10_clash_91 ?_
                exact kk_sub [] rfl (hJ_7 r_5 h)
          · replace h := h.2 c_9
            refine kk_iload_n 0 rfl e_X10_clash_62 ?_
            exact kk_iret e_X10_clash_63 ⟨rfl, h⟩
        · replace h := h.2 c_10
          refine kk_iload_n 1 rfl e_X10_clash_37 ?_
          exact kk_iret e_X10_clash_38 ⟨rfl, h⟩
      · replace h := h.2 c_11
        exact kk_sub [] rfl (hJ_2 h)
theorem e_X6_allPosts_0 : kk_d cX6_allPosts 0 (.iconst 1) 1 1 := ⟨by decide +kernel, rfl⟩
theorem e_X6_allPosts_1 : kk_d cX6_allPosts 1 (.aload_n 0) 1 2 := ⟨by decide +kernel, rfl⟩
theorem e_X6_allPosts_2 : kk_d cX6_allPosts 2 (.getfield 27) 3 5 := ⟨by decide +kernel, rfl⟩
theorem e_X6_allPosts_5 : kk_d cX6_allPosts 5 .ishl 1 6 := ⟨by decide +kernel, rfl⟩
theorem e_X6_allPosts_6 : kk_d cX6_allPosts 6 (.iconst 1) 1 7 := ⟨by decide +kernel, rfl⟩
theorem e_X6_allPosts_7 : kk_d cX6_allPosts 7 .isub 1 8 := ⟨by decide +kernel, rfl⟩
theorem e_X6_allPosts_8 : kk_d cX6_allPosts 8 .ireturn 1 9 := ⟨by decide +kernel, rfl⟩
set_option maxRecDepth 4000 in
theorem s_X6_allPosts (Z : kk_Z) (σ : kk_St) (Q : Int32 → Prop) (h : f_X6_allPosts σ Q) : kk_M Z sh_C yX6_allPosts cX6_allPosts 1 (some .int) (kk_R 2) [.ref (Z.2.1 1)] σ (kk_Qi Z sh_C (fun r σ' => σ' = σ ∧ Q r)) := by
  unfold f_X6_allPosts at h
  refine kk_met (own := RX6) (by decide) rfl (Nat.le_of_ble_eq_true rfl) rfl ?_
  refine kk_iconst ic_1 e_X6_allPosts_0 ?_
  refine kk_aload_n 0 rfl e_X6_allPosts_1 ?_
  refine kk_geti e_X6_allPosts_2 fl_X6_27 rfl rfl ?_
  refine kk_ishl e_X6_allPosts_5 ?_
  refine kk_iconst ic_1 e_X6_allPosts_6 ?_
  refine kk_isub e_X6_allPosts_7 ?_
  exact kk_iret e_X6_allPosts_8 ⟨rfl, h⟩
theorem e_X10_colour_0 : kk_d cX10_colour 0 (.aload_n 0) 1 1 := ⟨by decide +kernel, rfl⟩
theorem e_X10_colour_1 : kk_d cX10_colour 1 (.getfield 21) 3 4 := ⟨by decide +kernel, rfl⟩
theorem e_X10_colour_4 : kk_d cX10_colour 4 (.iload_n 1) 1 5 := ⟨by decide +kernel, rfl⟩
theorem e_X10_colour_5 : kk_d cX10_colour 5 (.invokevirtual 127) 3 8 := ⟨by decide +kernel, rfl⟩
theorem e_X10_colour_8 : kk_dj cX10_colour 8 (.ifCond .ne 5) 3 (5) 11 13 := ⟨by decide +kernel, rfl, by decide⟩
theorem e_X10_colour_13 : kk_d cX10_colour 13 (.aload_n 0) 1 14 := ⟨by decide +kernel, rfl⟩
theorem e_X10_colour_14 : kk_d cX10_colour 14 (.getfield 21) 3 17 := ⟨by decide +kernel, rfl⟩
theorem e_X10_colour_17 : kk_d cX10_colour 17 (.getfield 160) 3 20 := ⟨by decide +kernel, rfl⟩
theorem e_X10_colour_20 : kk_d cX10_colour 20 (.iload_n 1) 1 21 := ⟨by decide +kernel, rfl⟩
theorem e_X10_colour_21 : kk_d cX10_colour 21 .iaload 1 22 := ⟨by decide +kernel, rfl⟩
theorem e_X10_colour_22 : kk_d cX10_colour 22 (.istore_n 3) 1 23 := ⟨by decide +kernel, rfl⟩
theorem e_X10_colour_23 : kk_d cX10_colour 23 (.iload_n 2) 1 24 := ⟨by decide +kernel, rfl⟩
theorem e_X10_colour_24 : decode cX10_colour 24 = .ok (.tableswitch 54 0 2 #[28, 33, 35], 28) := by decide +kernel
theorem e_X10_colour_52 : kk_d cX10_colour 52 (.iload_n 3) 1 53 := ⟨by decide +kernel, rfl⟩
theorem e_X10_colour_53 : kk_d cX10_colour 53 (.invokestatic 155) 3 56 := ⟨by decide +kernel, rfl⟩
theorem e_X10_colour_56 : kk_d cX10_colour 56 .ireturn 1 57 := ⟨by decide +kernel, rfl⟩
theorem e_X10_colour_57 : kk_d cX10_colour 57 (.iload_n 3) 1 58 := ⟨by decide +kernel, rfl⟩
theorem e_X10_colour_58 : kk_d cX10_colour 58 .ireturn 1 59 := ⟨by decide +kernel, rfl⟩
theorem e_X10_colour_59 : kk_d cX10_colour 59 (.aload_n 0) 1 60 := ⟨by decide +kernel, rfl⟩
theorem e_X10_colour_60 : kk_d cX10_colour 60 (.getfield 10) 3 63 := ⟨by decide +kernel, rfl⟩
theorem e_X10_colour_63 : kk_d cX10_colour 63 (.invokevirtual 221) 3 66 := ⟨by decide +kernel, rfl⟩
theorem e_X10_colour_66 : kk_d cX10_colour 66 (.aload_n 0) 1 67 := ⟨by decide +kernel, rfl⟩
theorem e_X10_colour_67 : kk_d cX10_colour 67 (.getfield 10) 3 70 := ⟨by decide +kernel, rfl⟩
theorem e_X10_colour_70 : kk_d cX10_colour 70 (.iload_n 3) 1 71 := ⟨by decide +kernel, rfl⟩
theorem e_X10_colour_71 : kk_d cX10_colour 71 (.invokevirtual 224) 3 74 := ⟨by decide +kernel, rfl⟩
theorem e_X10_colour_74 : kk_d cX10_colour 74 (.iconst (-1)) 1 75 := ⟨by decide +kernel, rfl⟩
theorem e_X10_colour_75 : kk_d cX10_colour 75 .ixor 1 76 := ⟨by decide +kernel, rfl⟩
theorem e_X10_colour_76 : kk_d cX10_colour 76 .iand 1 77 := ⟨by decide +kernel, rfl⟩
theorem e_X10_colour_77 : kk_d cX10_colour 77 .ireturn 1 78 := ⟨by decide +kernel, rfl⟩
theorem e_X10_colour_78 : kk_d cX10_colour 78 (.iconst (-1)) 1 79 := ⟨by decide +kernel, rfl⟩
theorem e_X10_colour_79 : kk_d cX10_colour 79 .ireturn 1 80 := ⟨by decide +kernel, rfl⟩
theorem e_X10_colour_11 : kk_d cX10_colour 11 (.iconst (-1)) 1 12 := ⟨by decide +kernel, rfl⟩
theorem e_X10_colour_12 : kk_d cX10_colour 12 .ireturn 1 13 := ⟨by decide +kernel, rfl⟩
set_option maxRecDepth 4000 in
theorem s_X10_colour (Z : kk_Z) (v1 : Int32) (v2 : Int32) (σ : kk_St) (Q : Int32 → Prop) (h : f_X10_colour v1 v2 σ Q) : kk_M Z sh_C yX10_colour cX10_colour 4 (some .int) (kk_R 4) [.ref (Z.2.1 0), .int v1, .int v2] σ (kk_Qi Z sh_C (fun r σ' => σ' = σ ∧ Q r)) := by
  unfold f_X10_colour at h
  refine kk_met (own := RX10) (by decide) rfl (Nat.le_of_ble_eq_true rfl) rfl ?_
  refine kk_aload_n 0 rfl e_X10_colour_0 ?_
  refine kk_getr e_X10_colour_1 fl_X10_21 rfl rfl ?_
  refine kk_iload_n 1 rfl e_X10_colour_4 ?_
  refine kk_callVip (As := [.int v1]) (rest := []) e_X10_colour_5 ml_X10_127 ⟨_, _, _, _, rfl, rfl⟩ rfl (kk_fitR (by decide) (by decide)) (Nat.le_of_ble_eq_true rfl) rfl (s_X3_isColour Z v1 σ _ h) (fun r_1 h => ?_)
  refine kk_if_ne e_X10_colour_8 (fun c_5 => ?_) (fun c_5 => ?_)
  · replace h := h.1 c_5
    refine kk_aload_n 0 rfl e_X10_colour_13 ?_
    refine kk_getr e_X10_colour_14 fl_X10_21 rfl rfl ?_
    refine kk_getr e_X10_colour_17 fl_X10_160 rfl rfl ?_
    refine kk_iload_n 1 rfl e_X10_colour_20 ?_
    refine kk_iald e_X10_colour_21 rfl h.1 ?_
    replace h := h.2
    refine kk_istore_n (lv' := [(3, .int (kk_rd σ 17 v1)), (0, .ref (Z.2.1 0)), (1, .int v1), (2, .int v2)]) e_X10_colour_22 rfl (by decide) rfl ?_
    refine kk_iload_n 3 rfl e_X10_colour_23 ?_
    rcases kk_swc v2 3 (by decide) with ⟨i, hi, hx⟩ | hx
    · rcases (show i = 0 ∨ i = 1 ∨ i = 2 by omega) with rfl | rfl | rfl
      · replace h := h.1 hx
        refine kk_swIn (tgt := 52) e_X10_colour_24 0 hx (by decide) (by decide) rfl (by decide) ?_
        refine kk_iload_n 0 rfl e_X10_colour_52 ?_
        refine kk_callSip (As := [.int (kk_rd σ 17 v1)]) (rest := []) e_X10_colour_53 ml_X10_155 rfl (kk_fitR (by decide) (by decide)) (Nat.le_of_ble_eq_true rfl) rfl (s_J6_bitCount_0f7a4 Z (kk_rd σ 17 v1) σ _ h) (fun r_2 h => ?_)
        exact kk_iret e_X10_colour_56 ⟨rfl, h⟩
      · replace h := h.2.1 hx
        refine kk_swIn (tgt := 57) e_X10_colour_24 1 hx (by decide) (by decide) rfl (by decide) ?_
        refine kk_iload_n 0 rfl e_X10_colour_57 ?_
        exact kk_iret e_X10_colour_58 ⟨rfl, h⟩
      · replace h := h.2.2.1 hx
        refine kk_swIn (tgt := 59) e_X10_colour_24 2 hx (by decide) (by decide) rfl (by decide) ?_
        refine kk_aload_n 1 rfl e_X10_colour_59 ?_
        refine kk_getr e_X10_colour_60 fl_X10_10 rfl rfl ?_
        refine kk_callVip (As := []) (rest := []) e_X10_colour_63 ml_X10_221 ⟨_, _, _, _, rfl, rfl⟩ rfl (kk_fitR (by decide) (by decide)) (Nat.le_of_ble_eq_true rfl) rfl (s_X6_allPosts Z σ _ h) (fun r_3 h => ?_)
        refine kk_aload_n 1 rfl e_X10_colour_66 ?_
        refine kk_getr e_X10_colour_67 fl_X10_10 rfl rfl ?_
        refine kk_iload_n 0 rfl e_X10_colour_70 ?_
        refine kk_callVip (As := [.int (kk_rd σ 17 v1)]) (rest := [.int r_3]) e_X10_colour_71 ml_X10_224 ⟨_, _, _, _, rfl, rfl⟩ rfl (kk_fitR (by decide) (by decide)) (Nat.le_of_ble_eq_true rfl) rfl (s_X6_postsOf Z (kk_rd σ 17 v1) σ _ h) (fun r_4 h => ?_)
        refine kk_iconst ic_m1 e_X10_colour_74 ?_
        refine kk_ixor e_X10_colour_75 ?_
        refine kk_iand e_X10_colour_76 ?_
        exact kk_iret e_X10_colour_77 ⟨rfl, h⟩
    · replace h := h.2.2.2 (by omega)
      refine kk_swOut (tgt := 78) e_X10_colour_24 (by omega) (by decide) ?_
      refine kk_iconst ic_m1 e_X10_colour_78 ?_
      exact kk_iret e_X10_colour_79 ⟨rfl, h⟩
  · replace h := h.2 c_5
    refine kk_iconst ic_m1 e_X10_colour_11 ?_
    exact kk_iret e_X10_colour_12 ⟨rfl, h⟩
