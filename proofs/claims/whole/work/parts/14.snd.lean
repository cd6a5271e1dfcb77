theorem e_X10_ways_0 : kk_d cX10_ways 0 (.iload_n 1) 1 1 := ⟨by decide +kernel, rfl⟩
theorem e_X10_ways_1 : kk_d cX10_ways 1 (.invokestatic 260) 3 4 := ⟨by decide +kernel, rfl⟩
theorem e_X10_ways_4 : kk_dj cX10_ways 4 (.ifCond .ne 7) 3 (7) 7 11 := ⟨by decide +kernel, rfl, by decide⟩
theorem e_X10_ways_11 : kk_d cX10_ways 11 (.aload_n 0) 1 12 := ⟨by decide +kernel, rfl⟩
theorem e_X10_ways_12 : kk_d cX10_ways 12 (.getfield 10) 3 15 := ⟨by decide +kernel, rfl⟩
theorem e_X10_ways_15 : kk_d cX10_ways 15 (.getfield 112) 3 18 := ⟨by decide +kernel, rfl⟩
theorem e_X10_ways_18 : kk_d cX10_ways 18 (.bipush 9) 2 20 := ⟨by decide +kernel, rfl⟩
theorem e_X10_ways_20 : kk_dj cX10_ways 20 (.if_icmp .le 9) 3 (9) 23 29 := ⟨by decide +kernel, rfl, by decide⟩
theorem e_X10_ways_37 : kk_d cX10_ways 37 .lreturn 1 38 := ⟨by decide +kernel, rfl⟩
theorem e_X10_ways_29 : kk_d cX10_ways 29 (.aload_n 0) 1 30 := ⟨by decide +kernel, rfl⟩
theorem e_X10_ways_30 : kk_d cX10_ways 30 (.getfield 74) 3 33 := ⟨by decide +kernel, rfl⟩
theorem e_X10_ways_33 : kk_d cX10_ways 33 (.iload_n 1) 1 34 := ⟨by decide +kernel, rfl⟩
theorem e_X10_ways_34 : kk_d cX10_ways 34 (.invokevirtual 327) 3 37 := ⟨by decide +kernel, rfl⟩
theorem e_X10_ways_23 : kk_d cX10_ways 23 (.ldc2_w 325) 3 26 := ⟨by decide +kernel, rfl⟩
theorem e_X10_ways_26 : kk_dj cX10_ways 26 (.goto 11) 3 (11) 29 37 := ⟨by decide +kernel, rfl, by decide⟩
theorem e_X10_ways_7 : kk_d cX10_ways 7 (.ldc2_w 323) 3 10 := ⟨by decide +kernel, rfl⟩
theorem e_X10_ways_10 : kk_d cX10_ways 10 .lreturn 1 11 := ⟨by decide +kernel, rfl⟩
set_option maxRecDepth 4000 in
theorem s_X10_ways (Z : kk_Z) (v1 : Int32) (σ : kk_St) (Q : Int64 → kk_St → Prop) (h : f_X10_ways v1 σ Q) : kk_M Z sh_C yX10_ways cX10_ways 2 (some .long) (kk_R 34) [.ref (Z.2.1 0), .int v1] σ (kk_Ql Z sh_C Q) := by
  unfold f_X10_ways at h
  refine kk_met (own := RX10) (by decide) rfl (Nat.le_of_ble_eq_true rfl) rfl ?_
  refine kk_iload_n 1 rfl e_X10_ways_0 ?_
  refine kk_callSip (As := [.int v1]) (rest := []) e_X10_ways_1 ml_X10_260 rfl (kk_fitR (by decide) (by decide)) (Nat.le_of_ble_eq_true rfl) rfl (s_X10_isFew Z v1 σ _ h) (fun r_1 h => ?_)
  refine kk_if_ne e_X10_ways_4 (fun c_8 => ?_) (fun c_8 => ?_)
  · replace h := h.1 c_8
    refine kk_aload_n 0 rfl e_X10_ways_11 ?_
    refine kk_getr e_X10_ways_12 fl_X10_10 rfl rfl ?_
    refine kk_geti e_X10_ways_15 fl_X10_112 rfl rfl ?_
    refine kk_bipush bp_9 e_X10_ways_18 ?_
    refine kk_jW2 (P := fun (t_2 : Int64) (σ_3 : kk_St) => KK Z sh_C RX10 cX10_ways 2 (some .long) (kk_R 34) (kk_Ql Z sh_C Q) 37 [] [.long t_2] σ_3) h ?_ ?_
    · intro t_2 σ_3 h
      exact kk_lret e_X10_ways_37 h
    · intro J_4 hJ_4 h
      refine kk_icmp_le e_X10_ways_20 (fun c_7 => ?_) (fun c_7 => ?_)
      · replace h := h.1 c_7
        refine kk_aload_n 0 rfl e_X10_ways_29 ?_
        refine kk_getr e_X10_ways_30 fl_X10_74 rfl rfl ?_
        refine kk_iload_n 1 rfl e_X10_ways_33 ?_
        refine kk_callVl (As := [.int v1]) (rest := []) e_X10_ways_34 ml_X10_327 ⟨_, _, _, _, rfl, rfl⟩ rfl (kk_fitR (by decide) (by decide)) (Nat.le_of_ble_eq_true rfl) rfl (s_X8_countColourings Z v1 σ _ h) (fun r_5 σ_6 h => ?_)
        exact kk_sub [] rfl (hJ_4 r_5 σ_6 h)
      · replace h := h.2 c_7
        refine kk_ldc2 e_X10_ways_23 cw_X10_325 ?_
        refine kk_goto e_X10_ways_26 ?_
        exact kk_sub [] rfl (hJ_4 (-2 : Int64) σ h)
  · replace h := h.2 c_8
    refine kk_ldc2 e_X10_ways_7 cw_X10_323 ?_
    exact kk_lret e_X10_ways_10 h
theorem e_X11_allLines_0 : kk_d cX11_allLines 0 (.iconst 1) 1 1 := ⟨by decide +kernel, rfl⟩
theorem e_X11_allLines_1 : kk_d cX11_allLines 1 (.aload_n 0) 1 2 := ⟨by decide +kernel, rfl⟩
theorem e_X11_allLines_2 : kk_d cX11_allLines 2 (.getfield 96) 3 5 := ⟨by decide +kernel, rfl⟩
theorem e_X11_allLines_5 : kk_d cX11_allLines 5 .ishl 1 6 := ⟨by decide +kernel, rfl⟩
theorem e_X11_allLines_6 : kk_d cX11_allLines 6 (.iconst 1) 1 7 := ⟨by decide +kernel, rfl⟩
theorem e_X11_allLines_7 : kk_d cX11_allLines 7 .isub 1 8 := ⟨by decide +kernel, rfl⟩
theorem e_X11_allLines_8 : kk_d cX11_allLines 8 .ireturn 1 9 := ⟨by decide +kernel, rfl⟩
set_option maxRecDepth 4000 in
theorem s_X11_allLines (Z : kk_Z) (σ : kk_St) (Q : Int32 → Prop) (h : f_X11_allLines σ Q) : kk_M Z sh_M yX11_allLines cX11_allLines 1 (some .int) (kk_R 2) [.ref (Z.2.1 0)] σ (kk_Qi Z sh_M (fun r σ' => σ' = σ ∧ Q r)) := by
  unfold f_X11_allLines at h
  refine kk_met (own := RX11) (by decide) rfl (Nat.le_of_ble_eq_true rfl) rfl ?_
  refine kk_iconst ic_1 e_X11_allLines_0 ?_
  refine kk_aload_n 0 rfl e_X11_allLines_1 ?_
  refine kk_geti e_X11_allLines_2 fl_X11_96 rfl rfl ?_
  refine kk_ishl e_X11_allLines_5 ?_
  refine kk_iconst ic_1 e_X11_allLines_6 ?_
  refine kk_isub e_X11_allLines_7 ?_
  exact kk_iret e_X11_allLines_8 ⟨rfl, h⟩
theorem e_X11_allPosts_0 : kk_d cX11_allPosts 0 (.iconst 1) 1 1 := ⟨by decide +kernel, rfl⟩
theorem e_X11_allPosts_1 : kk_d cX11_allPosts 1 (.aload_n 0) 1 2 := ⟨by decide +kernel, rfl⟩
theorem e_X11_allPosts_2 : kk_d cX11_allPosts 2 (.getfield 21) 3 5 := ⟨by decide +kernel, rfl⟩
theorem e_X11_allPosts_5 : kk_d cX11_allPosts 5 .ishl 1 6 := ⟨by decide +kernel, rfl⟩
theorem e_X11_allPosts_6 : kk_d cX11_allPosts 6 (.iconst 1) 1 7 := ⟨by decide +kernel, rfl⟩
theorem e_X11_allPosts_7 : kk_d cX11_allPosts 7 .isub 1 8 := ⟨by decide +kernel, rfl⟩
theorem e_X11_allPosts_8 : kk_d cX11_allPosts 8 .ireturn 1 9 := ⟨by decide +kernel, rfl⟩
set_option maxRecDepth 4000 in
theorem s_X11_allPosts (Z : kk_Z) (σ : kk_St) (Q : Int32 → Prop) (h : f_X11_allPosts σ Q) : kk_M Z sh_M yX11_allPosts cX11_allPosts 1 (some .int) (kk_R 2) [.ref (Z.2.1 0)] σ (kk_Qi Z sh_M (fun r σ' => σ' = σ ∧ Q r)) := by
  unfold f_X11_allPosts at h
  refine kk_met (own := RX11) (by decide) rfl (Nat.le_of_ble_eq_true rfl) rfl ?_
  refine kk_iconst ic_1 e_X11_allPosts_0 ?_
  refine kk_aload_n 0 rfl e_X11_allPosts_1 ?_
  refine kk_geti e_X11_allPosts_2 fl_X11_21 rfl rfl ?_
  refine kk_ishl e_X11_allPosts_5 ?_
  refine kk_iconst ic_1 e_X11_allPosts_6 ?_
  refine kk_isub e_X11_allPosts_7 ?_
  exact kk_iret e_X11_allPosts_8 ⟨rfl, h⟩
theorem e_X11_apartBy_0 : kk_d cX11_apartBy 0 (.aload_n 0) 1 1 := ⟨by decide +kernel, rfl⟩
theorem e_X11_apartBy_1 : kk_d cX11_apartBy 1 (.getfield 86) 3 4 := ⟨by decide +kernel, rfl⟩
theorem e_X11_apartBy_4 : kk_d cX11_apartBy 4 (.sipush 512) 3 7 := ⟨by decide +kernel, rfl⟩
theorem e_X11_apartBy_7 : kk_d cX11_apartBy 7 (.iload_n 1) 1 8 := ⟨by decide +kernel, rfl⟩
theorem e_X11_apartBy_8 : kk_d cX11_apartBy 8 .imul 1 9 := ⟨by decide +kernel, rfl⟩
theorem e_X11_apartBy_9 : kk_d cX11_apartBy 9 (.iload_n 2) 1 10 := ⟨by decide +kernel, rfl⟩
theorem e_X11_apartBy_10 : kk_d cX11_apartBy 10 .iadd 1 11 := ⟨by decide +kernel, rfl⟩
theorem e_X11_apartBy_11 : kk_d cX11_apartBy 11 .iaload 1 12 := ⟨by decide +kernel, rfl⟩
theorem e_X11_apartBy_12 : kk_d cX11_apartBy 12 .ireturn 1 13 := ⟨by decide +kernel, rfl⟩
set_option maxRecDepth 4000 in
theorem s_X11_apartBy (Z : kk_Z) (v1 : Int32) (v2 : Int32) (σ : kk_St) (Q : Int32 → Prop) (h : f_X11_apartBy v1 v2 σ Q) : kk_M Z sh_M yX11_apartBy cX11_apartBy 3 (some .int) (kk_R 2) [.ref (Z.2.1 0), .int v1, .int v2] σ (kk_Qi Z sh_M (fun r σ' => σ' = σ ∧ Q r)) := by
  unfold f_X11_apartBy at h
  refine kk_met (own := RX11) (by decide) rfl (Nat.le_of_ble_eq_true rfl) rfl ?_
  refine kk_aload_n 0 rfl e_X11_apartBy_0 ?_
  refine kk_getr e_X11_apartBy_1 fl_X11_86 rfl rfl ?_
  refine kk_sipush sp_512 e_X11_apartBy_4 ?_
  refine kk_iload_n 1 rfl e_X11_apartBy_7 ?_
  refine kk_imul e_X11_apartBy_8 ?_
  refine kk_iload_n 2 rfl e_X11_apartBy_9 ?_
  refine kk_iadd e_X11_apartBy_10 ?_
  refine kk_iald e_X11_apartBy_11 rfl h.1 ?_
  replace h := h.2
  exact kk_iret e_X11_apartBy_12 ⟨rfl, h⟩
theorem e_X11_in_0 : kk_d cX11_in 0 (.iload_n 0) 1 1 := ⟨by decide +kernel, rfl⟩
theorem e_X11_in_1 : kk_d cX11_in 1 (.iload_n 1) 1 2 := ⟨by decide +kernel, rfl⟩
theorem e_X11_in_2 : kk_dj cX11_in 2 (.if_icmp .lt 12) 3 (12) 5 14 := ⟨by decide +kernel, rfl, by decide⟩
theorem e_X11_in_15 : kk_d cX11_in 15 .ireturn 1 16 := ⟨by decide +kernel, rfl⟩
theorem e_X11_in_14 : kk_d cX11_in 14 (.iconst 0) 1 15 := ⟨by decide +kernel, rfl⟩
theorem e_X11_in_5 : kk_d cX11_in 5 (.iload_n 0) 1 6 := ⟨by decide +kernel, rfl⟩
theorem e_X11_in_6 : kk_d cX11_in 6 (.iload_n 2) 1 7 := ⟨by decide +kernel, rfl⟩
theorem e_X11_in_7 : kk_dj cX11_in 7 (.if_icmp .gt 7) 3 (7) 10 14 := ⟨by decide +kernel, rfl, by decide⟩
theorem e_X11_in_10 : kk_d cX11_in 10 (.iconst 1) 1 11 := ⟨by decide +kernel, rfl⟩
theorem e_X11_in_11 : kk_dj cX11_in 11 (.goto 4) 3 (4) 14 15 := ⟨by decide +kernel, rfl, by decide⟩
set_option maxRecDepth 4000 in
theorem s_X11_in (Z : kk_Z) (v0 : Int32) (v1 : Int32) (v2 : Int32) (σ : kk_St) (Q : Int32 → Prop) (h : f_X11_in v0 v1 v2 Q) : kk_M Z sh_M yX11_in cX11_in 3 (some .boolean) (kk_R 2) [.int v0, .int v1, .int v2] σ (kk_Qi Z sh_M (fun r σ' => σ' = σ ∧ Q r)) := by
  unfold f_X11_in at h
  refine kk_met (own := RX11) (by decide) rfl (Nat.le_of_ble_eq_true rfl) rfl ?_
  refine kk_iload_n 0 rfl e_X11_in_0 ?_
  refine kk_iload_n 1 rfl e_X11_in_1 ?_
  refine kk_jW1 (P := fun (t_1 : Int32) => KK Z sh_M RX11 cX11_in 3 (some .boolean) (kk_R 2) (kk_Qi Z sh_M (fun r σ' => σ' = σ ∧ Q r)) 15 [] [.int t_1] σ) h ?_ ?_
  · intro t_1 h
    exact kk_zret e_X11_in_15 h.1 ⟨rfl, h.2⟩
  · intro J_2 hJ_2 h
    refine kk_jW0 (P := KK Z sh_M RX11 cX11_in 3 (some .boolean) (kk_R 2) (kk_Qi Z sh_M (fun r σ' => σ' = σ ∧ Q r)) 14 [] [] σ) h ?_ ?_
    · intro h
      refine kk_iconst ic_0 e_X11_in_14 ?_
      exact kk_sub [] rfl (hJ_2 (0 : Int32) h)
    · intro J_3 hJ_3 h
      refine kk_icmp_lt e_X11_in_2 (fun c_5 => ?_) (fun c_5 => ?_)
      · replace h := h.1 c_5
        exact kk_sub [] rfl (hJ_3 h)
      · replace h := h.2 c_5
        refine kk_iload_n 0 rfl e_X11_in_5 ?_
        refine kk_iload_n 2 rfl e_X11_in_6 ?_
        refine kk_icmp_gt e_X11_in_7 (fun c_4 => ?_) (fun c_4 => ?_)
        · replace h := h.1 c_4
          exact kk_sub [] rfl (hJ_3 h)
        · replace h := h.2 c_4
          refine kk_iconst ic_1 e_X11_in_10 ?_
          refine kk_goto e_X11_in_11 ?_
          exact kk_sub [] rfl (hJ_2 (1 : Int32) h)
theorem e_X11_has_0 : kk_d cX11_has 0 (.iload_n 0) 1 1 := ⟨by decide +kernel, rfl⟩
theorem e_X11_has_1 : kk_d cX11_has 1 (.iload_n 1) 1 2 := ⟨by decide +kernel, rfl⟩
theorem e_X11_has_2 : kk_d cX11_has 2 .ishr 1 3 := ⟨by decide +kernel, rfl⟩
theorem e_X11_has_3 : kk_d cX11_has 3 (.iconst 1) 1 4 := ⟨by decide +kernel, rfl⟩
theorem e_X11_has_4 : kk_d cX11_has 4 .iand 1 5 := ⟨by decide +kernel, rfl⟩
theorem e_X11_has_5 : kk_d cX11_has 5 (.iconst 1) 1 6 := ⟨by decide +kernel, rfl⟩
theorem e_X11_has_6 : kk_dj cX11_has 6 (.if_icmp .ne 7) 3 (7) 9 13 := ⟨by decide +kernel, rfl, by decide⟩
theorem e_X11_has_14 : kk_d cX11_has 14 .ireturn 1 15 := ⟨by decide +kernel, rfl⟩
theorem e_X11_has_13 : kk_d cX11_has 13 (.iconst 0) 1 14 := ⟨by decide +kernel, rfl⟩
theorem e_X11_has_9 : kk_d cX11_has 9 (.iconst 1) 1 10 := ⟨by decide +kernel, rfl⟩
theorem e_X11_has_10 : kk_dj cX11_has 10 (.goto 4) 3 (4) 13 14 := ⟨by decide +kernel, rfl, by decide⟩
set_option maxRecDepth 4000 in
theorem s_X11_has (Z : kk_Z) (v0 : Int32) (v1 : Int32) (σ : kk_St) (Q : Int32 → Prop) (h : f_X11_has v0 v1 Q) : kk_M Z sh_M yX11_has cX11_has 2 (some .boolean) (kk_R 2) [.int v0, .int v1] σ (kk_Qi Z sh_M (fun r σ' => σ' = σ ∧ Q r)) := by
  unfold f_X11_has at h
  refine kk_met (own := RX11) (by decide) rfl (Nat.le_of_ble_eq_true rfl) rfl ?_
  refine kk_iload_n 0 rfl e_X11_has_0 ?_
  refine kk_iload_n 1 rfl e_X11_has_1 ?_
  refine kk_ishr e_X11_has_2 ?_
  refine kk_iconst ic_1 e_X11_has_3 ?_
  refine kk_iand e_X11_has_4 ?_
  refine kk_iconst ic_1 e_X11_has_5 ?_
  refine kk_jW1 (P := fun (t_1 : Int32) => KK Z sh_M RX11 cX11_has 2 (some .boolean) (kk_R 2) (kk_Qi Z sh_M (fun r σ' => σ' = σ ∧ Q r)) 14 [] [.int t_1] σ) h ?_ ?_
  · intro t_1 h
    exact kk_zret e_X11_has_14 h.1 ⟨rfl, h.2⟩
  · intro J_2 hJ_2 h
    refine kk_icmp_ne e_X11_has_6 (fun c_3 => ?_) (fun c_3 => ?_)
    · replace h := h.1 c_3
      refine kk_iconst ic_0 e_X11_has_13 ?_
      exact kk_sub [] rfl (hJ_2 (0 : Int32) h)
    · replace h := h.2 c_3
      refine kk_iconst ic_1 e_X11_has_9 ?_
      refine kk_goto e_X11_has_10 ?_
      exact kk_sub [] rfl (hJ_2 (1 : Int32) h)
theorem e_X11_areThere_0 : kk_d cX11_areThere 0 (.iload_n 1) 1 1 := ⟨by decide +kernel, rfl⟩
theorem e_X11_areThere_1 : kk_d cX11_areThere 1 (.aload_n 0) 1 2 := ⟨by decide +kernel, rfl⟩
theorem e_X11_areThere_2 : kk_d cX11_areThere 2 (.getfield 24) 3 5 := ⟨by decide +kernel, rfl⟩
theorem e_X11_areThere_5 : kk_d cX11_areThere 5 (.iload_n 2) 1 6 := ⟨by decide +kernel, rfl⟩
theorem e_X11_areThere_6 : kk_d cX11_areThere 6 .iaload 1 7 := ⟨by decide +kernel, rfl⟩
theorem e_X11_areThere_7 : kk_d cX11_areThere 7 (.invokestatic 11) 3 10 := ⟨by decide +kernel, rfl⟩
theorem e_X11_areThere_10 : kk_dj cX11_areThere 10 (.ifCond .eq 20) 3 (20) 13 30 := ⟨by decide +kernel, rfl, by decide⟩
theorem e_X11_areThere_31 : kk_d cX11_areThere 31 .ireturn 1 32 := ⟨by decide +kernel, rfl⟩
theorem e_X11_areThere_30 : kk_d cX11_areThere 30 (.iconst 0) 1 31 := ⟨by decide +kernel, rfl⟩
theorem e_X11_areThere_13 : kk_d cX11_areThere 13 (.iload_n 1) 1 14 := ⟨by decide +kernel, rfl⟩
theorem e_X11_areThere_14 : kk_d cX11_areThere 14 (.aload_n 0) 1 15 := ⟨by decide +kernel, rfl⟩
theorem e_X11_areThere_15 : kk_d cX11_areThere 15 (.getfield 28) 3 18 := ⟨by decide +kernel, rfl⟩
theorem e_X11_areThere_18 : kk_d cX11_areThere 18 (.iload_n 2) 1 19 := ⟨by decide +kernel, rfl⟩
theorem e_X11_areThere_19 : kk_d cX11_areThere 19 .iaload 1 20 := ⟨by decide +kernel, rfl⟩
theorem e_X11_areThere_20 : kk_d cX11_areThere 20 (.invokestatic 11) 3 23 := ⟨by decide +kernel, rfl⟩
theorem e_X11_areThere_23 : kk_dj cX11_areThere 23 (.ifCond .eq 7) 3 (7) 26 30 := ⟨by decide +kernel, rfl, by decide⟩
theorem e_X11_areThere_26 : kk_d cX11_areThere 26 (.iconst 1) 1 27 := ⟨by decide +kernel, rfl⟩
theorem e_X11_areThere_27 : kk_dj cX11_areThere 27 (.goto 4) 3 (4) 30 31 := ⟨by decide +kernel, rfl, by decide⟩
set_option maxRecDepth 4000 in
theorem s_X11_areThere (Z : kk_Z) (v1 : Int32) (v2 : Int32) (σ : kk_St) (Q : Int32 → Prop) (h : f_X11_areThere v1 v2 σ Q) : kk_M Z sh_M yX11_areThere cX11_areThere 3 (some .boolean) (kk_R 3) [.ref (Z.2.1 0), .int v1, .int v2] σ (kk_Qi Z sh_M (fun r σ' => σ' = σ ∧ Q r)) := by
  unfold f_X11_areThere at h
  refine kk_met (own := RX11) (by decide) rfl (Nat.le_of_ble_eq_true rfl) rfl ?_
  refine kk_iload_n 1 rfl e_X11_areThere_0 ?_
  refine kk_aload_n 0 rfl e_X11_areThere_1 ?_
  refine kk_getr e_X11_areThere_2 fl_X11_24 rfl rfl ?_
  refine kk_iload_n 2 rfl e_X11_areThere_5 ?_
  refine kk_iald e_X11_areThere_6 rfl h.1 ?_
  replace h := h.2
  refine kk_callSip (As := [.int v1, .int (kk_rd σ 1 v2)]) (rest := []) e_X11_areThere_7 ml_X11_11 rfl (kk_fitR (by decide) (by decide)) (Nat.le_of_ble_eq_true rfl) rfl (s_X11_has Z v1 (kk_rd σ 1 v2) σ _ h) (fun r_1 h => ?_)
  refine kk_jW1 (P := fun (t_2 : Int32) => KK Z sh_M RX11 cX11_areThere 3 (some .boolean) (kk_R 3) (kk_Qi Z sh_M (fun r σ' => σ' = σ ∧ Q r)) 31 [] [.int t_2] σ) h ?_ ?_
  · intro t_2 h
    exact kk_zret e_X11_areThere_31 h.1 ⟨rfl, h.2⟩
  · intro J_3 hJ_3 h
    refine kk_jW0 (P := KK Z sh_M RX11 cX11_areThere 3 (some .boolean) (kk_R 3) (kk_Qi Z sh_M (fun r σ' => σ' = σ ∧ Q r)) 30 [] [] σ) h ?_ ?_
    · intro h
      refine kk_iconst ic_0 e_X11_areThere_30 ?_
      exact kk_sub [] rfl (hJ_3 (0 : Int32) h)
    · intro J_4 hJ_4 h
      refine kk_if_eq e_X11_areThere_10 (fun c_7 => ?_) (fun c_7 => ?_)
      · replace h := h.1 c_7
        exact kk_sub [] rfl (hJ_4 h)
      · replace h := h.2 c_7
        refine kk_iload_n 1 rfl e_X11_areThere_13 ?_
        refine kk_aload_n 0 rfl e_X11_areThere_14 ?_
        refine kk_getr e_X11_areThere_15 fl_X11_28 rfl rfl ?_
        refine kk_iload_n 2 rfl e_X11_areThere_18 ?_
        refine kk_iald e_X11_areThere_19 rfl h.1 ?_
        replace h := h.2
        refine kk_callSip (As := [.int v1, .int (kk_rd σ 2 v2)]) (rest := []) e_X11_areThere_20 ml_X11_11 rfl (kk_fitR (by decide) (by decide)) (Nat.le_of_ble_eq_true rfl) rfl (s_X11_has Z v1 (kk_rd σ 2 v2) σ _ h) (fun r_5 h => ?_)
        refine kk_if_eq e_X11_areThere_23 (fun c_6 => ?_) (fun c_6 => ?_)
        · replace h := h.1 c_6
          exact kk_sub [] rfl (hJ_4 h)
        · replace h := h.2 c_6
          refine kk_iconst ic_1 e_X11_areThere_26 ?_
          refine kk_goto e_X11_areThere_27 ?_
          exact kk_sub [] rfl (hJ_3 (1 : Int32) h)
theorem e_X11_without_0 : kk_d cX11_without 0 (.iload_n 1) 1 1 := ⟨by decide +kernel, rfl⟩
theorem e_X11_without_1 : kk_d cX11_without 1 (.iconst 1) 1 2 := ⟨by decide +kernel, rfl⟩
theorem e_X11_without_2 : kk_d cX11_without 2 (.aload_n 0) 1 3 := ⟨by decide +kernel, rfl⟩
theorem e_X11_without_3 : kk_d cX11_without 3 (.getfield 24) 3 6 := ⟨by decide +kernel, rfl⟩
theorem e_X11_without_6 : kk_d cX11_without 6 (.iload_n 2) 1 7 := ⟨by decide +kernel, rfl⟩
theorem e_X11_without_7 : kk_d cX11_without 7 .iaload 1 8 := ⟨by decide +kernel, rfl⟩
theorem e_X11_without_8 : kk_d cX11_without 8 .ishl 1 9 := ⟨by decide +kernel, rfl⟩
theorem e_X11_without_9 : kk_d cX11_without 9 (.iconst (-1)) 1 10 := ⟨by decide +kernel, rfl⟩
theorem e_X11_without_10 : kk_d cX11_without 10 .ixor 1 11 := ⟨by decide +kernel, rfl⟩
theorem e_X11_without_11 : kk_d cX11_without 11 .iand 1 12 := ⟨by decide +kernel, rfl⟩
theorem e_X11_without_12 : kk_d cX11_without 12 (.iconst 1) 1 13 := ⟨by decide +kernel, rfl⟩
theorem e_X11_without_13 : kk_d cX11_without 13 (.aload_n 0) 1 14 := ⟨by decide +kernel, rfl⟩
theorem e_X11_without_14 : kk_d cX11_without 14 (.getfield 28) 3 17 := ⟨by decide +kernel, rfl⟩
theorem e_X11_without_17 : kk_d cX11_without 17 (.iload_n 2) 1 18 := ⟨by decide +kernel, rfl⟩
theorem e_X11_without_18 : kk_d cX11_without 18 .iaload 1 19 := ⟨by decide +kernel, rfl⟩
theorem e_X11_without_19 : kk_d cX11_without 19 .ishl 1 20 := ⟨by decide +kernel, rfl⟩
theorem e_X11_without_20 : kk_d cX11_without 20 (.iconst (-1)) 1 21 := ⟨by decide +kernel, rfl⟩
theorem e_X11_without_21 : kk_d cX11_without 21 .ixor 1 22 := ⟨by decide +kernel, rfl⟩
theorem e_X11_without_22 : kk_d cX11_without 22 .iand 1 23 := ⟨by decide +kernel, rfl⟩
theorem e_X11_without_23 : kk_d cX11_without 23 .ireturn 1 24 := ⟨by decide +kernel, rfl⟩
set_option maxRecDepth 4000 in
theorem s_X11_without (Z : kk_Z) (v1 : Int32) (v2 : Int32) (σ : kk_St) (Q : Int32 → Prop) (h : f_X11_without v1 v2 σ Q) : kk_M Z sh_M yX11_without cX11_without 3 (some .int) (kk_R 2) [.ref (Z.2.1 0), .int v1, .int v2] σ (kk_Qi Z sh_M (fun r σ' => σ' = σ ∧ Q r)) := by
  unfold f_X11_without at h
  refine kk_met (own := RX11) (by decide) rfl (Nat.le_of_ble_eq_true rfl) rfl ?_
  refine kk_iload_n 1 rfl e_X11_without_0 ?_
  refine kk_iconst ic_1 e_X11_without_1 ?_
  refine kk_aload_n 0 rfl e_X11_without_2 ?_
  refine kk_getr e_X11_without_3 fl_X11_24 rfl rfl ?_
  refine kk_iload_n 2 rfl e_X11_without_6 ?_
  refine kk_iald e_X11_without_7 rfl h.1 ?_
  replace h := h.2
  refine kk_ishl e_X11_without_8 ?_
  refine kk_iconst ic_m1 e_X11_without_9 ?_
  refine kk_ixor e_X11_without_10 ?_
  refine kk_iand e_X11_without_11 ?_
  refine kk_iconst ic_1 e_X11_without_12 ?_
  refine kk_aload_n 0 rfl e_X11_without_13 ?_
  refine kk_getr e_X11_without_14 fl_X11_28 rfl rfl ?_
  refine kk_iload_n 2 rfl e_X11_without_17 ?_
  refine kk_iald e_X11_without_18 rfl h.1 ?_
  replace h := h.2
  refine kk_ishl e_X11_without_19 ?_
  refine kk_iconst ic_m1 e_X11_without_20 ?_
  refine kk_ixor e_X11_without_21 ?_
  refine kk_iand e_X11_without_22 ?_
  exact kk_iret e_X11_without_23 ⟨rfl, h⟩
theorem e_X11_laysApart_0 : kk_d cX11_laysApart 0 (.iconst 0) 1 1 := ⟨by decide +kernel, rfl⟩
theorem e_X11_laysApart_1 : kk_d cX11_laysApart 1 (.istore_n 1) 1 2 := ⟨by decide +kernel, rfl⟩
theorem e_X11_laysApart_2 : kk_d cX11_laysApart 2 (.iload_n 1) 1 3 := ⟨by decide +kernel, rfl⟩
theorem e_X11_laysApart_3 : kk_d cX11_laysApart 3 (.sipush 512) 3 6 := ⟨by decide +kernel, rfl⟩
theorem e_X11_laysApart_6 : kk_dj cX11_laysApart 6 (.if_icmp .ge 16) 3 (16) 9 22 := ⟨by decide +kernel, rfl, by decide⟩
theorem e_X11_laysApart_22 : kk_d cX11_laysApart 22 (.iconst 0) 1 23 := ⟨by decide +kernel, rfl⟩
theorem e_X11_laysApart_23 : kk_d cX11_laysApart 23 (.istore_n 1) 1 24 := ⟨by decide +kernel, rfl⟩
theorem e_X11_laysApart_24 : kk_d cX11_laysApart 24 (.iload_n 1) 1 25 := ⟨by decide +kernel, rfl⟩
theorem e_X11_laysApart_25 : kk_d cX11_laysApart 25 (.aload_n 0) 1 26 := ⟨by decide +kernel, rfl⟩
theorem e_X11_laysApart_26 : kk_d cX11_laysApart 26 (.getfield 96) 3 29 := ⟨by decide +kernel, rfl⟩
theorem e_X11_laysApart_29 : kk_dj cX11_laysApart 29 (.if_icmp .ge 79) 3 (79) 32 108 := ⟨by decide +kernel, rfl, by decide⟩
theorem e_X11_laysApart_108 : kk_d cX11_laysApart 108 .return_ 1 109 := ⟨by decide +kernel, rfl⟩
theorem e_X11_laysApart_32 : kk_d cX11_laysApart 32 (.iconst 0) 1 33 := ⟨by decide +kernel, rfl⟩
theorem e_X11_laysApart_33 : kk_d cX11_laysApart 33 (.istore_n 2) 1 34 := ⟨by decide +kernel, rfl⟩
theorem e_X11_laysApart_34 : kk_d cX11_laysApart 34 (.iload_n 2) 1 35 := ⟨by decide +kernel, rfl⟩
theorem e_X11_laysApart_35 : kk_d cX11_laysApart 35 (.sipush 512) 3 38 := ⟨by decide +kernel, rfl⟩
theorem e_X11_laysApart_38 : kk_dj cX11_laysApart 38 (.if_icmp .ge 64) 3 (64) 41 102 := ⟨by decide +kernel, rfl, by decide⟩
theorem e_X11_laysApart_102 : kk_d cX11_laysApart 102 (.iinc 1 1) 3 105 := ⟨by decide +kernel, rfl⟩
theorem e_X11_laysApart_105 : kk_dj cX11_laysApart 105 (.goto (-81)) 3 (-81) 108 24 := ⟨by decide +kernel, rfl, by decide⟩
theorem e_X11_laysApart_41 : kk_d cX11_laysApart 41 (.aload_n 0) 1 42 := ⟨by decide +kernel, rfl⟩
theorem e_X11_laysApart_42 : kk_d cX11_laysApart 42 (.iload_n 1) 1 43 := ⟨by decide +kernel, rfl⟩
theorem e_X11_laysApart_43 : kk_d cX11_laysApart 43 (.iload_n 2) 1 44 := ⟨by decide +kernel, rfl⟩
theorem e_X11_laysApart_44 : kk_d cX11_laysApart 44 (.invokevirtual 296) 3 47 := ⟨by decide +kernel, rfl⟩
theorem e_X11_laysApart_47 : kk_d cX11_laysApart 47 (.istore_n 3) 1 48 := ⟨by decide +kernel, rfl⟩
theorem e_X11_laysApart_48 : kk_d cX11_laysApart 48 (.aload_n 0) 1 49 := ⟨by decide +kernel, rfl⟩
theorem e_X11_laysApart_49 : kk_d cX11_laysApart 49 (.iload_n 2) 1 50 := ⟨by decide +kernel, rfl⟩
theorem e_X11_laysApart_50 : kk_d cX11_laysApart 50 (.iload_n 1) 1 51 := ⟨by decide +kernel, rfl⟩
theorem e_X11_laysApart_51 : kk_d cX11_laysApart 51 (.invokevirtual 299) 3 54 := ⟨by decide +kernel, rfl⟩
theorem e_X11_laysApart_54 : kk_dj cX11_laysApart 54 (.ifCond .eq 27) 3 (27) 57 81 := ⟨by decide +kernel, rfl, by decide⟩
theorem e_X11_laysApart_81 : kk_d cX11_laysApart 81 (.aload_n 0) 1 82 := ⟨by decide +kernel, rfl⟩
theorem e_X11_laysApart_82 : kk_d cX11_laysApart 82 (.getfield 86) 3 85 := ⟨by decide +kernel, rfl⟩
theorem e_X11_laysApart_85 : kk_d cX11_laysApart 85 (.sipush 512) 3 88 := ⟨by decide +kernel, rfl⟩
theorem e_X11_laysApart_88 : kk_d cX11_laysApart 88 (.iload_n 1) 1 89 := ⟨by decide +kernel, rfl⟩
theorem e_X11_laysApart_89 : kk_d cX11_laysApart 89 (.iconst 1) 1 90 := ⟨by decide +kernel, rfl⟩
theorem e_X11_laysApart_90 : kk_d cX11_laysApart 90 .iadd 1 91 := ⟨by decide +kernel, rfl⟩
theorem e_X11_laysApart_91 : kk_d cX11_laysApart 91 .imul 1 92 := ⟨by decide +kernel, rfl⟩
theorem e_X11_laysApart_92 : kk_d cX11_laysApart 92 (.iload_n 2) 1 93 := ⟨by decide +kernel, rfl⟩
theorem e_X11_laysApart_93 : kk_d cX11_laysApart 93 .iadd 1 94 := ⟨by decide +kernel, rfl⟩
theorem e_X11_laysApart_94 : kk_d cX11_laysApart 94 (.iload_n 3) 1 95 := ⟨by decide +kernel, rfl⟩
theorem e_X11_laysApart_95 : kk_d cX11_laysApart 95 .iastore 1 96 := ⟨by decide +kernel, rfl⟩
theorem e_X11_laysApart_96 : kk_d cX11_laysApart 96 (.iinc 2 1) 3 99 := ⟨by decide +kernel, rfl⟩
theorem e_X11_laysApart_99 : kk_dj cX11_laysApart 99 (.goto (-65)) 3 (-65) 102 34 := ⟨by decide +kernel, rfl, by decide⟩
theorem e_X11_laysApart_57 : kk_d cX11_laysApart 57 (.iconst 1) 1 58 := ⟨by decide +kernel, rfl⟩
theorem e_X11_laysApart_58 : kk_d cX11_laysApart 58 (.aload_n 0) 1 59 := ⟨by decide +kernel, rfl⟩
theorem e_X11_laysApart_59 : kk_d cX11_laysApart 59 (.iload_n 1) 1 60 := ⟨by decide +kernel, rfl⟩
theorem e_X11_laysApart_60 : kk_d cX11_laysApart 60 (.aload_n 0) 1 61 := ⟨by decide +kernel, rfl⟩
theorem e_X11_laysApart_61 : kk_d cX11_laysApart 61 (.iload_n 2) 1 62 := ⟨by decide +kernel, rfl⟩
theorem e_X11_laysApart_62 : kk_d cX11_laysApart 62 (.iload_n 1) 1 63 := ⟨by decide +kernel, rfl⟩
theorem e_X11_laysApart_63 : kk_d cX11_laysApart 63 (.invokevirtual 302) 3 66 := ⟨by decide +kernel, rfl⟩
theorem e_X11_laysApart_66 : kk_d cX11_laysApart 66 (.invokevirtual 296) 3 69 := ⟨by decide +kernel, rfl⟩
theorem e_X11_laysApart_69 : kk_d cX11_laysApart 69 .iadd 1 70 := ⟨by decide +kernel, rfl⟩
theorem e_X11_laysApart_70 : kk_d cX11_laysApart 70 (.istore 4) 2 72 := ⟨by decide +kernel, rfl⟩
theorem e_X11_laysApart_72 : kk_d cX11_laysApart 72 (.iload 4) 2 74 := ⟨by decide +kernel, rfl⟩
theorem e_X11_laysApart_74 : kk_d cX11_laysApart 74 (.iload_n 3) 1 75 := ⟨by decide +kernel, rfl⟩
theorem e_X11_laysApart_75 : kk_dj cX11_laysApart 75 (.if_icmp .le 6) 3 (6) 78 81 := ⟨by decide +kernel, rfl, by decide⟩
theorem e_X11_laysApart_78 : kk_d cX11_laysApart 78 (.iload 4) 2 80 := ⟨by decide +kernel, rfl⟩
theorem e_X11_laysApart_80 : kk_d cX11_laysApart 80 (.istore_n 3) 1 81 := ⟨by decide +kernel, rfl⟩
theorem e_X11_laysApart_9 : kk_d cX11_laysApart 9 (.aload_n 0) 1 10 := ⟨by decide +kernel, rfl⟩
theorem e_X11_laysApart_10 : kk_d cX11_laysApart 10 (.getfield 86) 3 13 := ⟨by decide +kernel, rfl⟩
theorem e_X11_laysApart_13 : kk_d cX11_laysApart 13 (.iload_n 1) 1 14 := ⟨by decide +kernel, rfl⟩
theorem e_X11_laysApart_14 : kk_d cX11_laysApart 14 (.iconst 0) 1 15 := ⟨by decide +kernel, rfl⟩
theorem e_X11_laysApart_15 : kk_d cX11_laysApart 15 .iastore 1 16 := ⟨by decide +kernel, rfl⟩
theorem e_X11_laysApart_16 : kk_d cX11_laysApart 16 (.iinc 1 1) 3 19 := ⟨by decide +kernel, rfl⟩
theorem e_X11_laysApart_19 : kk_dj cX11_laysApart 19 (.goto (-17)) 3 (-17) 22 2 := ⟨by decide +kernel, rfl, by decide⟩
set_option maxRecDepth 4000 in
theorem s_X11_laysApart (Z : kk_Z) (σ : kk_St) (Q : kk_St → Prop) (h : f_X11_laysApart σ Q) : kk_M Z sh_M yX11_laysApart cX11_laysApart 5 none (kk_R 4) [.ref (Z.2.1 0)] σ (kk_Qv Z sh_M Q) := by
  unfold f_X11_laysApart at h
  refine kk_met (own := RX11) (by decide) rfl (Nat.le_of_ble_eq_true rfl) rfl ?_
  refine kk_iconst ic_0 e_X11_laysApart_0 ?_
  refine kk_istore_n (lv' := [(1, .int (0 : Int32)), (0, .ref (Z.2.1 0))]) e_X11_laysApart_1 rfl (by decide) rfl ?_
  refine kk_sub [1, 0] rfl ?_
  refine kk_lpW2 (P := fun (v1_1 : Int32) (σ_2 : kk_St) => KK Z sh_M RX11 cX11_laysApart 5 none (kk_R 4) (kk_Qv Z sh_M Q) 2 [(0, .ref (Z.2.1 0)), (1, .int v1_1)] [] σ_2) ?_ h
  intro rec_3 hrec_3 v1_1 σ_2 h
  refine kk_iload_n 1 rfl e_X11_laysApart_2 ?_
  refine kk_sipush sp_512 e_X11_laysApart_3 ?_
  refine kk_icmp_ge e_X11_laysApart_6 (fun c_22 => ?_) (fun c_22 => ?_)
  · replace h := h.1 c_22
    refine kk_iconst ic_0 e_X11_laysApart_22 ?_
    refine kk_istore_n (lv' := [(1, .int (0 : Int32)), (0, .ref (Z.2.1 0))]) e_X11_laysApart_23 rfl (by decide) rfl ?_
    refine kk_sub [1, 0] rfl ?_
    refine kk_lpW2 (P := fun (v1_4 : Int32) (σ_5 : kk_St) => KK Z sh_M RX11 cX11_laysApart 5 none (kk_R 4) (kk_Qv Z sh_M Q) 24 [(0, .ref (Z.2.1 0)), (1, .int v1_4)] [] σ_5) ?_ h
    intro rec_6 hrec_6 v1_4 σ_5 h
    refine kk_iload_n 1 rfl e_X11_laysApart_24 ?_
    refine kk_aload_n 0 rfl e_X11_laysApart_25 ?_
    refine kk_geti e_X11_laysApart_26 fl_X11_96 rfl rfl ?_
    refine kk_icmp_ge e_X11_laysApart_29 (fun c_20 => ?_) (fun c_20 => ?_)
    · replace h := h.1 c_20
      exact kk_vret e_X11_laysApart_108 h
    · replace h := h.2 c_20
      refine kk_iconst ic_0 e_X11_laysApart_32 ?_
      refine kk_istore_n (lv' := [(2, .int (0 : Int32)), (0, .ref (Z.2.1 0)), (1, .int v1_4)]) e_X11_laysApart_33 rfl (by decide) rfl ?_
      refine kk_sub [1, 2, 0] rfl ?_
      refine kk_lpW2 (P := fun (v2_7 : Int32) (σ_8 : kk_St) => KK Z sh_M RX11 cX11_laysApart 5 none (kk_R 4) (kk_Qv Z sh_M Q) 34 [(0, .ref (Z.2.1 0)), (1, .int v1_4), (2, .int v2_7)] [] σ_8) ?_ h
      intro rec_9 hrec_9 v2_7 σ_8 h
      refine kk_iload_n 2 rfl e_X11_laysApart_34 ?_
      refine kk_sipush sp_512 e_X11_laysApart_35 ?_
      refine kk_icmp_ge e_X11_laysApart_38 (fun c_19 => ?_) (fun c_19 => ?_)
      · replace h := h.1 c_19
        refine kk_iinc (lv' := [(1, .int (v1_4 + (1 : Int32))), (0, .ref (Z.2.1 0)), (2, .int v2_7)]) e_X11_laysApart_102 (j := 1) rfl (ii_1 v1_4) (by decide) rfl ?_
        refine kk_goto e_X11_laysApart_105 ?_
        exact kk_sub [1, 0] rfl (hrec_6 (v1_4 + (1 : Int32)) σ_8 h)
      · replace h := h.2 c_19
        refine kk_aload_n 0 rfl e_X11_laysApart_41 ?_
        refine kk_iload_n 1 rfl e_X11_laysApart_42 ?_
        refine kk_iload_n 2 rfl e_X11_laysApart_43 ?_
        refine kk_callVip (As := [.int v1_4, .int v2_7]) (rest := []) e_X11_laysApart_44 ml_X11_296 ⟨_, _, _, _, rfl, rfl⟩ rfl (kk_fitR (by decide) (by decide)) (Nat.le_of_ble_eq_true rfl) rfl (s_X11_apartBy Z v1_4 v2_7 σ_8 _ h) (fun r_10 h => ?_)
        refine kk_istore_n (lv' := [(3, .int r_10), (0, .ref (Z.2.1 0)), (1, .int v1_4), (2, .int v2_7)]) e_X11_laysApart_47 rfl (by decide) rfl ?_
        refine kk_aload_n 1 rfl e_X11_laysApart_48 ?_
        refine kk_iload_n 3 rfl e_X11_laysApart_49 ?_
        refine kk_iload_n 2 rfl e_X11_laysApart_50 ?_
        refine kk_callVip (As := [.int v2_7, .int v1_4]) (rest := []) e_X11_laysApart_51 ml_X11_299 ⟨_, _, _, _, rfl, rfl⟩ rfl (kk_fitR (by decide) (by decide)) (Nat.le_of_ble_eq_true rfl) rfl (s_X11_areThere Z v2_7 v1_4 σ_8 _ h) (fun r_11 h => ?_)
        refine kk_jW1 (P := fun (v3_12 : Int32) => KK Z sh_M RX11 cX11_laysApart 5 none (kk_R 4) (kk_Qv Z sh_M Q) 81 [(0, .ref (Z.2.1 0)), (1, .int v1_4), (2, .int v2_7), (3, .int v3_12)] [] σ_8) h ?_ ?_
        · intro v3_12 h
          refine kk_aload_n 0 rfl e_X11_laysApart_81 ?_
          refine kk_getr e_X11_laysApart_82 fl_X11_86 rfl rfl ?_
          refine kk_sipush sp_512 e_X11_laysApart_85 ?_
          refine kk_iload_n 1 rfl e_X11_laysApart_88 ?_
          refine kk_iconst ic_1 e_X11_laysApart_89 ?_
          refine kk_iadd e_X11_laysApart_90 ?_
          refine kk_imul e_X11_laysApart_91 ?_
          refine kk_iload_n 2 rfl e_X11_laysApart_92 ?_
          refine kk_iadd e_X11_laysApart_93 ?_
          refine kk_iload_n 3 rfl e_X11_laysApart_94 ?_
          refine kk_iast e_X11_laysApart_95 rfl h.1 ?_
          replace h := h.2
          refine kk_tops (fun σ_14 eσ_14 => ?_)
          replace h := h σ_14 eσ_14
          refine kk_iinc (lv' := [(2, .int (v2_7 + (1 : Int32))), (0, .ref (Z.2.1 0)), (1, .int v1_4), (3, .int v3_12)]) e_X11_laysApart_96 (j := 2) rfl (ii_1 v2_7) (by decide) rfl ?_
          refine kk_goto e_X11_laysApart_99 ?_
          exact kk_sub [1, 2, 0] rfl (hrec_9 (v2_7 + (1 : Int32)) σ_14 h)
        · intro J_13 hJ_13 h
          refine kk_if_eq e_X11_laysApart_54 (fun c_18 => ?_) (fun c_18 => ?_)
          · replace h := h.1 c_18
            exact kk_sub [1, 2, 3, 0] rfl (hJ_13 r_10 h)
          · replace h := h.2 c_18
            refine kk_iconst ic_1 e_X11_laysApart_57 ?_
            refine kk_aload_n 1 rfl e_X11_laysApart_58 ?_
            refine kk_iload_n 2 rfl e_X11_laysApart_59 ?_
            refine kk_aload_n 1 rfl e_X11_laysApart_60 ?_
            refine kk_iload_n 3 rfl e_X11_laysApart_61 ?_
            refine kk_iload_n 2 rfl e_X11_laysApart_62 ?_
            refine kk_callVip (As := [.int v2_7, .int v1_4]) (rest := [.int v1_4, .ref (Z.2.1 0), .int (1 : Int32)]) e_X11_laysApart_63 ml_X11_302 ⟨_, _, _, _, rfl, rfl⟩ rfl (kk_fitR (by decide) (by decide)) (Nat.le_of_ble_eq_true rfl) rfl (s_X11_without Z v2_7 v1_4 σ_8 _ h) (fun r_15 h => ?_)
            refine kk_callVip (As := [.int v1_4, .int r_15]) (rest := [.int (1 : Int32)]) e_X11_laysApart_66 ml_X11_296 ⟨_, _, _, _, rfl, rfl⟩ rfl (kk_fitR (by decide) (by decide)) (Nat.le_of_ble_eq_true rfl) rfl (s_X11_apartBy Z v1_4 r_15 σ_8 _ h) (fun r_16 h => ?_)
            refine kk_iadd e_X11_laysApart_69 ?_
            refine kk_istore (lv' := [(4, .int ((1 : Int32) + r_16)), (3, .int r_10), (0, .ref (Z.2.1 0)), (1, .int v1_4), (2, .int v2_7)]) e_X11_laysApart_70 (by decide) rfl ?_
            refine kk_iload 0 rfl e_X11_laysApart_72 ?_
            refine kk_iload_n 1 rfl e_X11_laysApart_74 ?_
            refine kk_icmp_le e_X11_laysApart_75 (fun c_17 => ?_) (fun c_17 => ?_)
            · replace h := h.1 c_17
              exact kk_sub [2, 3, 4, 1] rfl (hJ_13 r_10 h)
            · replace h := h.2 c_17
              refine kk_iload 0 rfl e_X11_laysApart_78 ?_
              refine kk_istore_n (lv' := [(3, .int ((1 : Int32) + r_16)), (4, .int ((1 : Int32) + r_16)), (0, .ref (Z.2.1 0)), (1, .int v1_4), (2, .int v2_7)]) e_X11_laysApart_80 rfl (by decide) rfl ?_
              exact kk_sub [2, 3, 4, 0] rfl (hJ_13 ((1 : Int32) + r_16) h)
  · replace h := h.2 c_22
    refine kk_aload_n 0 rfl e_X11_laysApart_9 ?_
    refine kk_getr e_X11_laysApart_10 fl_X11_86 rfl rfl ?_
    refine kk_iload_n 1 rfl e_X11_laysApart_13 ?_
    refine kk_iconst ic_0 e_X11_laysApart_14 ?_
    refine kk_iast e_X11_laysApart_15 rfl h.1 ?_
    replace h := h.2
    refine kk_tops (fun σ_21 eσ_21 => ?_)
    replace h := h σ_21 eσ_21
    refine kk_iinc (lv' := [(1, .int (v1_1 + (1 : Int32))), (0, .ref (Z.2.1 0))]) e_X11_laysApart_16 (j := 1) rfl (ii_1 v1_1) (by decide) rfl ?_
    refine kk_goto e_X11_laysApart_19 ?_
    exact kk_sub [1, 0] rfl (hrec_3 (v1_1 + (1 : Int32)) σ_21 h)
theorem e_X11_apart_0 : kk_d cX11_apart 0 (.iload_n 1) 1 1 := ⟨by decide +kernel, rfl⟩
theorem e_X11_apart_1 : kk_d cX11_apart 1 (.iconst 0) 1 2 := ⟨by decide +kernel, rfl⟩
theorem e_X11_apart_2 : kk_d cX11_apart 2 (.iconst 1) 1 3 := ⟨by decide +kernel, rfl⟩
theorem e_X11_apart_3 : kk_d cX11_apart 3 (.invokestatic 92) 3 6 := ⟨by decide +kernel, rfl⟩
theorem e_X11_apart_6 : kk_dj cX11_apart 6 (.ifCond .ne 5) 3 (5) 9 11 := ⟨by decide +kernel, rfl, by decide⟩
theorem e_X11_apart_11 : kk_d cX11_apart 11 (.aload_n 0) 1 12 := ⟨by decide +kernel, rfl⟩
theorem e_X11_apart_12 : kk_d cX11_apart 12 (.invokevirtual 305) 3 15 := ⟨by decide +kernel, rfl⟩
theorem e_X11_apart_15 : kk_d cX11_apart 15 (.aload_n 0) 1 16 := ⟨by decide +kernel, rfl⟩
theorem e_X11_apart_16 : kk_d cX11_apart 16 (.invokevirtual 238) 3 19 := ⟨by decide +kernel, rfl⟩
theorem e_X11_apart_19 : kk_d cX11_apart 19 (.istore_n 2) 1 20 := ⟨by decide +kernel, rfl⟩
theorem e_X11_apart_20 : kk_d cX11_apart 20 (.iload_n 1) 1 21 := ⟨by decide +kernel, rfl⟩
theorem e_X11_apart_21 : kk_dj cX11_apart 21 (.ifCond .ne 13) 3 (13) 24 34 := ⟨by decide +kernel, rfl, by decide⟩
theorem e_X11_apart_34 : kk_d cX11_apart 34 (.iconst 0) 1 35 := ⟨by decide +kernel, rfl⟩
theorem e_X11_apart_35 : kk_d cX11_apart 35 (.istore_n 3) 1 36 := ⟨by decide +kernel, rfl⟩
theorem e_X11_apart_36 : kk_d cX11_apart 36 (.aload_n 0) 1 37 := ⟨by decide +kernel, rfl⟩
theorem e_X11_apart_37 : kk_d cX11_apart 37 (.getfield 96) 3 40 := ⟨by decide +kernel, rfl⟩
theorem e_X11_apart_40 : kk_d cX11_apart 40 (.iconst 1) 1 41 := ⟨by decide +kernel, rfl⟩
theorem e_X11_apart_41 : kk_d cX11_apart 41 .isub 1 42 := ⟨by decide +kernel, rfl⟩
theorem e_X11_apart_42 : kk_d cX11_apart 42 (.istore 4) 2 44 := ⟨by decide +kernel, rfl⟩
theorem e_X11_apart_44 : kk_d cX11_apart 44 (.iload 4) 2 46 := ⟨by decide +kernel, rfl⟩
theorem e_X11_apart_46 : kk_dj cX11_apart 46 (.ifCond .lt 46) 3 (46) 49 92 := ⟨by decide +kernel, rfl, by decide⟩
theorem e_X11_apart_92 : kk_d cX11_apart 92 (.iload_n 3) 1 93 := ⟨by decide +kernel, rfl⟩
theorem e_X11_apart_93 : kk_d cX11_apart 93 .ireturn 1 94 := ⟨by decide +kernel, rfl⟩
theorem e_X11_apart_49 : kk_d cX11_apart 49 (.aload_n 0) 1 50 := ⟨by decide +kernel, rfl⟩
theorem e_X11_apart_50 : kk_d cX11_apart 50 (.iload 4) 2 52 := ⟨by decide +kernel, rfl⟩
theorem e_X11_apart_52 : kk_d cX11_apart 52 (.iload_n 2) 1 53 := ⟨by decide +kernel, rfl⟩
theorem e_X11_apart_53 : kk_d cX11_apart 53 (.invokevirtual 296) 3 56 := ⟨by decide +kernel, rfl⟩
theorem e_X11_apart_56 : kk_d cX11_apart 56 (.aload_n 0) 1 57 := ⟨by decide +kernel, rfl⟩
theorem e_X11_apart_57 : kk_d cX11_apart 57 (.iload 4) 2 59 := ⟨by decide +kernel, rfl⟩
theorem e_X11_apart_59 : kk_d cX11_apart 59 (.iconst 1) 1 60 := ⟨by decide +kernel, rfl⟩
theorem e_X11_apart_60 : kk_d cX11_apart 60 .iadd 1 61 := ⟨by decide +kernel, rfl⟩
theorem e_X11_apart_61 : kk_d cX11_apart 61 (.iload_n 2) 1 62 := ⟨by decide +kernel, rfl⟩
theorem e_X11_apart_62 : kk_d cX11_apart 62 (.invokevirtual 296) 3 65 := ⟨by decide +kernel, rfl⟩
theorem e_X11_apart_65 : kk_dj cX11_apart 65 (.if_icmp .ne 6) 3 (6) 68 71 := ⟨by decide +kernel, rfl, by decide⟩
theorem e_X11_apart_86 : kk_d cX11_apart 86 (.iinc 4 (-1)) 3 89 := ⟨by decide +kernel, rfl⟩
theorem e_X11_apart_89 : kk_dj cX11_apart 89 (.goto (-45)) 3 (-45) 92 44 := ⟨by decide +kernel, rfl, by decide⟩
theorem e_X11_apart_71 : kk_d cX11_apart 71 (.iload_n 3) 1 72 := ⟨by decide +kernel, rfl⟩
theorem e_X11_apart_72 : kk_d cX11_apart 72 (.iconst 1) 1 73 := ⟨by decide +kernel, rfl⟩
theorem e_X11_apart_73 : kk_d cX11_apart 73 (.iload 4) 2 75 := ⟨by decide +kernel, rfl⟩
theorem e_X11_apart_75 : kk_d cX11_apart 75 .ishl 1 76 := ⟨by decide +kernel, rfl⟩
theorem e_X11_apart_76 : kk_d cX11_apart 76 .ior 1 77 := ⟨by decide +kernel, rfl⟩
theorem e_X11_apart_77 : kk_d cX11_apart 77 (.istore_n 3) 1 78 := ⟨by decide +kernel, rfl⟩
theorem e_X11_apart_78 : kk_d cX11_apart 78 (.aload_n 0) 1 79 := ⟨by decide +kernel, rfl⟩
theorem e_X11_apart_79 : kk_d cX11_apart 79 (.iload_n 2) 1 80 := ⟨by decide +kernel, rfl⟩
theorem e_X11_apart_80 : kk_d cX11_apart 80 (.iload 4) 2 82 := ⟨by decide +kernel, rfl⟩
theorem e_X11_apart_82 : kk_d cX11_apart 82 (.invokevirtual 302) 3 85 := ⟨by decide +kernel, rfl⟩
theorem e_X11_apart_85 : kk_d cX11_apart 85 (.istore_n 2) 1 86 := ⟨by decide +kernel, rfl⟩
theorem e_X11_apart_68 : kk_dj cX11_apart 68 (.goto 18) 3 (18) 71 86 := ⟨by decide +kernel, rfl, by decide⟩
theorem e_X11_apart_24 : kk_d cX11_apart 24 (.aload_n 0) 1 25 := ⟨by decide +kernel, rfl⟩
theorem e_X11_apart_25 : kk_d cX11_apart 25 (.aload_n 0) 1 26 := ⟨by decide +kernel, rfl⟩
theorem e_X11_apart_26 : kk_d cX11_apart 26 (.getfield 96) 3 29 := ⟨by decide +kernel, rfl⟩
theorem e_X11_apart_29 : kk_d cX11_apart 29 (.iload_n 2) 1 30 := ⟨by decide +kernel, rfl⟩
theorem e_X11_apart_30 : kk_d cX11_apart 30 (.invokevirtual 296) 3 33 := ⟨by decide +kernel, rfl⟩
theorem e_X11_apart_33 : kk_d cX11_apart 33 .ireturn 1 34 := ⟨by decide +kernel, rfl⟩
theorem e_X11_apart_9 : kk_d cX11_apart 9 (.iconst (-1)) 1 10 := ⟨by decide +kernel, rfl⟩
theorem e_X11_apart_10 : kk_d cX11_apart 10 .ireturn 1 11 := ⟨by decide +kernel, rfl⟩
set_option maxRecDepth 4000 in
theorem s_X11_apart (Z : kk_Z) (v1 : Int32) (σ : kk_St) (Q : Int32 → kk_St → Prop) (h : f_X11_apart v1 σ Q) : kk_M Z sh_M yX11_apart cX11_apart 5 (some .int) (kk_R 5) [.ref (Z.2.1 0), .int v1] σ (kk_Qi Z sh_M Q) := by
  unfold f_X11_apart at h
  refine kk_met (own := RX11) (by decide) rfl (Nat.le_of_ble_eq_true rfl) rfl ?_
  refine kk_iload_n 1 rfl e_X11_apart_0 ?_
  refine kk_iconst ic_0 e_X11_apart_1 ?_
  refine kk_iconst ic_1 e_X11_apart_2 ?_
  refine kk_callSip (As := [.int v1, .int (0 : Int32), .int (1 : Int32)]) (rest := []) e_X11_apart_3 ml_X11_92 rfl (kk_fitR (by decide) (by decide)) (Nat.le_of_ble_eq_true rfl) rfl (s_X11_in Z v1 (0 : Int32) (1 : Int32) σ _ h) (fun r_1 h => ?_)
  refine kk_if_ne e_X11_apart_6 (fun c_20 => ?_) (fun c_20 => ?_)
  · replace h := h.1 c_20
    refine kk_aload_n 0 rfl e_X11_apart_11 ?_
    refine kk_callVv (As := []) (rest := []) e_X11_apart_12 ml_X11_305 ⟨_, _, _, _, rfl, rfl⟩ rfl (kk_fitR (by decide) (by decide)) (Nat.le_of_ble_eq_true rfl) rfl (s_X11_laysApart Z σ _ h) (fun σ_2 h => ?_)
    refine kk_aload_n 0 rfl e_X11_apart_15 ?_
    refine kk_callVip (As := []) (rest := []) e_X11_apart_16 ml_X11_238 ⟨_, _, _, _, rfl, rfl⟩ rfl (kk_fitR (by decide) (by decide)) (Nat.le_of_ble_eq_true rfl) rfl (s_X11_allPosts Z σ_2 _ h) (fun r_3 h => ?_)
    refine kk_istore_n (lv' := [(2, .int r_3), (0, .ref (Z.2.1 0)), (1, .int v1)]) e_X11_apart_19 rfl (by decide) rfl ?_
    refine kk_iload_n 2 rfl e_X11_apart_20 ?_
    refine kk_if_ne e_X11_apart_21 (fun c_19 => ?_) (fun c_19 => ?_)
    · replace h := h.1 c_19
      refine kk_iconst ic_0 e_X11_apart_34 ?_
      refine kk_istore_n (lv' := [(3, .int (0 : Int32)), (2, .int r_3), (0, .ref (Z.2.1 0)), (1, .int v1)]) e_X11_apart_35 rfl (by decide) rfl ?_
      refine kk_aload_n 2 rfl e_X11_apart_36 ?_
      refine kk_geti e_X11_apart_37 fl_X11_96 rfl rfl ?_
      refine kk_iconst ic_1 e_X11_apart_40 ?_
      refine kk_isub e_X11_apart_41 ?_
      refine kk_topi (fun v4_4 ev4_4 => ?_)
      replace h := h v4_4 ev4_4
      refine kk_istore (lv' := [(4, .int v4_4), (3, .int (0 : Int32)), (2, .int r_3), (0, .ref (Z.2.1 0)), (1, .int v1)]) e_X11_apart_42 (by decide) rfl ?_
      refine kk_sub [3, 2, 1, 0] rfl ?_
      refine kk_lpW3 (P := fun (v2_5 : Int32) (v3_6 : Int32) (v4_7 : Int32) => KK Z sh_M RX11 cX11_apart 5 (some .int) (kk_R 5) (kk_Qi Z sh_M Q) 44 [(0, .ref (Z.2.1 0)), (2, .int v2_5), (3, .int v3_6), (4, .int v4_7)] [] σ_2) ?_ h
      intro rec_8 hrec_8 v2_5 v3_6 v4_7 h
      refine kk_iload 3 rfl e_X11_apart_44 ?_
      refine kk_if_lt e_X11_apart_46 (fun c_17 => ?_) (fun c_17 => ?_)
      · replace h := h.1 c_17
        refine kk_iload_n 2 rfl e_X11_apart_92 ?_
        exact kk_iret e_X11_apart_93 h
      · replace h := h.2 c_17
        refine kk_aload_n 0 rfl e_X11_apart_49 ?_
        refine kk_iload 3 rfl e_X11_apart_50 ?_
        refine kk_iload_n 1 rfl e_X11_apart_52 ?_
        refine kk_callVip (As := [.int v4_7, .int v2_5]) (rest := []) e_X11_apart_53 ml_X11_296 ⟨_, _, _, _, rfl, rfl⟩ rfl (kk_fitR (by decide) (by decide)) (Nat.le_of_ble_eq_true rfl) rfl (s_X11_apartBy Z v4_7 v2_5 σ_2 _ h) (fun r_9 h => ?_)
        refine kk_aload_n 0 rfl e_X11_apart_56 ?_
        refine kk_iload 3 rfl e_X11_apart_57 ?_
        refine kk_iconst ic_1 e_X11_apart_59 ?_
        refine kk_iadd e_X11_apart_60 ?_
        refine kk_iload_n 1 rfl e_X11_apart_61 ?_
        refine kk_callVip (As := [.int (v4_7 + (1 : Int32)), .int v2_5]) (rest := [.int r_9]) e_X11_apart_62 ml_X11_296 ⟨_, _, _, _, rfl, rfl⟩ rfl (kk_fitR (by decide) (by decide)) (Nat.le_of_ble_eq_true rfl) rfl (s_X11_apartBy Z (v4_7 + (1 : Int32)) v2_5 σ_2 _ h) (fun r_10 h => ?_)
        refine kk_jW2 (P := fun (v2_11 : Int32) (v3_12 : Int32) => KK Z sh_M RX11 cX11_apart 5 (some .int) (kk_R 5) (kk_Qi Z sh_M Q) 86 [(0, .ref (Z.2.1 0)), (2, .int v2_11), (3, .int v3_12), (4, .int v4_7)] [] σ_2) h ?_ ?_
        · intro v2_11 v3_12 h
          refine kk_iinc (lv' := [(4, .int (v4_7 + (-1 : Int32))), (0, .ref (Z.2.1 0)), (2, .int v2_11), (3, .int v3_12)]) e_X11_apart_86 (j := 3) rfl (ii_m1 v4_7) (by decide) rfl ?_
          refine kk_goto e_X11_apart_89 ?_
          exact kk_sub [1, 2, 3, 0] rfl (hrec_8 v2_11 v3_12 (v4_7 + (-1 : Int32)) h)
        · intro J_13 hJ_13 h
          refine kk_icmp_ne e_X11_apart_65 (fun c_16 => ?_) (fun c_16 => ?_)
          · replace h := h.1 c_16
            refine kk_iload_n 2 rfl e_X11_apart_71 ?_
            refine kk_iconst ic_1 e_X11_apart_72 ?_
            refine kk_iload 3 rfl e_X11_apart_73 ?_
            refine kk_ishl e_X11_apart_75 ?_
            refine kk_ior e_X11_apart_76 ?_
            refine kk_topi (fun v3_14 ev3_14 => ?_)
            replace h := h v3_14 ev3_14
            refine kk_istore_n (lv' := [(3, .int v3_14), (0, .ref (Z.2.1 0)), (2, .int v2_5), (4, .int v4_7)]) e_X11_apart_77 rfl (by decide) rfl ?_
            refine kk_aload_n 1 rfl e_X11_apart_78 ?_
            refine kk_iload_n 2 rfl e_X11_apart_79 ?_
            refine kk_iload 3 rfl e_X11_apart_80 ?_
            refine kk_callVip (As := [.int v2_5, .int v4_7]) (rest := []) e_X11_apart_82 ml_X11_302 ⟨_, _, _, _, rfl, rfl⟩ rfl (kk_fitR (by decide) (by decide)) (Nat.le_of_ble_eq_true rfl) rfl (s_X11_without Z v2_5 v4_7 σ_2 _ h) (fun r_15 h => ?_)
            refine kk_istore_n (lv' := [(2, .int r_15), (3, .int v3_14), (0, .ref (Z.2.1 0)), (4, .int v4_7)]) e_X11_apart_85 rfl (by decide) rfl ?_
            exact kk_sub [2, 0, 1, 3] rfl (hJ_13 r_15 v3_14 h)
          · replace h := h.2 c_16
            refine kk_goto e_X11_apart_68 ?_
            exact kk_sub [0, 1, 2, 3] rfl (hJ_13 v2_5 v3_6 h)
    · replace h := h.2 c_19
      refine kk_aload_n 1 rfl e_X11_apart_24 ?_
      refine kk_aload_n 1 rfl e_X11_apart_25 ?_
      refine kk_geti e_X11_apart_26 fl_X11_96 rfl rfl ?_
      refine kk_iload_n 0 rfl e_X11_apart_29 ?_
      refine kk_callVip (As := [.int (σ_2.1 0 2), .int r_3]) (rest := []) e_X11_apart_30 ml_X11_296 ⟨_, _, _, _, rfl, rfl⟩ rfl (kk_fitR (by decide) (by decide)) (Nat.le_of_ble_eq_true rfl) rfl (s_X11_apartBy Z (σ_2.1 0 2) r_3 σ_2 _ h) (fun r_18 h => ?_)
      exact kk_iret e_X11_apart_33 h
  · replace h := h.2 c_20
    refine kk_iconst ic_m1 e_X11_apart_9 ?_
    exact kk_iret e_X11_apart_10 h
theorem e_X11_areBelow_0 : kk_d cX11_areBelow 0 (.iconst 0) 1 1 := ⟨by decide +kernel, rfl⟩
theorem e_X11_areBelow_1 : kk_d cX11_areBelow 1 (.istore_n 3) 1 2 := ⟨by decide +kernel, rfl⟩
theorem e_X11_areBelow_2 : kk_d cX11_areBelow 2 (.iload_n 3) 1 3 := ⟨by decide +kernel, rfl⟩
theorem e_X11_areBelow_3 : kk_d cX11_areBelow 3 (.aload_n 0) 1 4 := ⟨by decide +kernel, rfl⟩
theorem e_X11_areBelow_4 : kk_d cX11_areBelow 4 (.getfield 96) 3 7 := ⟨by decide +kernel, rfl⟩
theorem e_X11_areBelow_7 : kk_dj cX11_areBelow 7 (.if_icmp .ge 24) 3 (24) 10 31 := ⟨by decide +kernel, rfl, by decide⟩
theorem e_X11_areBelow_31 : kk_d cX11_areBelow 31 (.iconst 1) 1 32 := ⟨by decide +kernel, rfl⟩
theorem e_X11_areBelow_32 : kk_d cX11_areBelow 32 .ireturn 1 33 := ⟨by decide +kernel, rfl⟩
theorem e_X11_areBelow_10 : kk_d cX11_areBelow 10 (.aload_n 1) 1 11 := ⟨by decide +kernel, rfl⟩
theorem e_X11_areBelow_11 : kk_d cX11_areBelow 11 (.iload_n 3) 1 12 := ⟨by decide +kernel, rfl⟩
theorem e_X11_areBelow_12 : kk_d cX11_areBelow 12 .iaload 1 13 := ⟨by decide +kernel, rfl⟩
theorem e_X11_areBelow_13 : kk_d cX11_areBelow 13 (.iconst 0) 1 14 := ⟨by decide +kernel, rfl⟩
theorem e_X11_areBelow_14 : kk_d cX11_areBelow 14 (.iload_n 2) 1 15 := ⟨by decide +kernel, rfl⟩
theorem e_X11_areBelow_15 : kk_d cX11_areBelow 15 (.iconst 1) 1 16 := ⟨by decide +kernel, rfl⟩
theorem e_X11_areBelow_16 : kk_d cX11_areBelow 16 .isub 1 17 := ⟨by decide +kernel, rfl⟩
theorem e_X11_areBelow_17 : kk_d cX11_areBelow 17 (.invokestatic 92) 3 20 := ⟨by decide +kernel, rfl⟩
theorem e_X11_areBelow_20 : kk_dj cX11_areBelow 20 (.ifCond .ne 5) 3 (5) 23 25 := ⟨by decide +kernel, rfl, by decide⟩
theorem e_X11_areBelow_25 : kk_d cX11_areBelow 25 (.iinc 3 1) 3 28 := ⟨by decide +kernel, rfl⟩
theorem e_X11_areBelow_28 : kk_dj cX11_areBelow 28 (.goto (-26)) 3 (-26) 31 2 := ⟨by decide +kernel, rfl, by decide⟩
theorem e_X11_areBelow_23 : kk_d cX11_areBelow 23 (.iconst 0) 1 24 := ⟨by decide +kernel, rfl⟩
theorem e_X11_areBelow_24 : kk_d cX11_areBelow 24 .ireturn 1 25 := ⟨by decide +kernel, rfl⟩
set_option maxRecDepth 4000 in
theorem s_X11_areBelow (Z : kk_Z) (a1 : Nat) (n1 : Nat) (v2 : Int32) (σ : kk_St) (Q : Int32 → Prop) (ha1 : sh_M[a1]? = some (.inl (false, n1))) (h : f_X11_areBelow a1 n1 v2 σ Q) : kk_M Z sh_M yX11_areBelow cX11_areBelow 4 (some .boolean) (kk_R 3) [.ref (Z.2.1 0), .ref (Z.2.1 a1), .int v2] σ (kk_Qi Z sh_M (fun r σ' => σ' = σ ∧ Q r)) := by
  unfold f_X11_areBelow at h
  refine kk_met (own := RX11) (by decide) rfl (Nat.le_of_ble_eq_true rfl) rfl ?_
  refine kk_iconst ic_0 e_X11_areBelow_0 ?_
  refine kk_istore_n (lv' := [(3, .int (0 : Int32)), (0, .ref (Z.2.1 0)), (1, .ref (Z.2.1 a1)), (2, .int v2)]) e_X11_areBelow_1 rfl (by decide) rfl ?_
  refine kk_sub [1, 2, 3, 0] rfl ?_
  refine kk_lpW1 (P := fun (v3_1 : Int32) => KK Z sh_M RX11 cX11_areBelow 4 (some .boolean) (kk_R 3) (kk_Qi Z sh_M (fun r σ' => σ' = σ ∧ Q r)) 2 [(0, .ref (Z.2.1 0)), (1, .ref (Z.2.1 a1)), (2, .int v2), (3, .int v3_1)] [] σ) ?_ h
  intro rec_2 hrec_2 v3_1 h
  refine kk_iload_n 3 rfl e_X11_areBelow_2 ?_
  refine kk_aload_n 0 rfl e_X11_areBelow_3 ?_
  refine kk_geti e_X11_areBelow_4 fl_X11_96 rfl rfl ?_
  refine kk_icmp_ge e_X11_areBelow_7 (fun c_5 => ?_) (fun c_5 => ?_)
  · replace h := h.1 c_5
    refine kk_iconst ic_1 e_X11_areBelow_31 ?_
    exact kk_zret e_X11_areBelow_32 (Or.inr rfl) ⟨rfl, h⟩
  · replace h := h.2 c_5
    refine kk_aload_n 1 rfl e_X11_areBelow_10 ?_
    refine kk_iload_n 3 rfl e_X11_areBelow_11 ?_
    refine kk_iald e_X11_areBelow_12 ha1 h.1 ?_
    replace h := h.2
    refine kk_iconst ic_0 e_X11_areBelow_13 ?_
    refine kk_iload_n 2 rfl e_X11_areBelow_14 ?_
    refine kk_iconst ic_1 e_X11_areBelow_15 ?_
    refine kk_isub e_X11_areBelow_16 ?_
    refine kk_callSip (As := [.int (kk_rd σ a1 v3_1), .int (0 : Int32), .int (v2 - (1 : Int32))]) (rest := []) e_X11_areBelow_17 ml_X11_92 rfl (kk_fitR (by decide) (by decide)) (Nat.le_of_ble_eq_true rfl) rfl (s_X11_in Z (kk_rd σ a1 v3_1) (0 : Int32) (v2 - (1 : Int32)) σ _ h) (fun r_3 h => ?_)
    refine kk_if_ne e_X11_areBelow_20 (fun c_4 => ?_) (fun c_4 => ?_)
    · replace h := h.1 c_4
      refine kk_iinc (lv' := [(3, .int (v3_1 + (1 : Int32))), (0, .ref (Z.2.1 0)), (1, .ref (Z.2.1 a1)), (2, .int v2)]) e_X11_areBelow_25 (j := 3) rfl (ii_1 v3_1) (by decide) rfl ?_
      refine kk_goto e_X11_areBelow_28 ?_
      exact kk_sub [1, 2, 3, 0] rfl (hrec_2 (v3_1 + (1 : Int32)) h)
    · replace h := h.2 c_4
      refine kk_iconst ic_0 e_X11_areBelow_23 ?_
      exact kk_zret e_X11_areBelow_24 (Or.inl rfl) ⟨rfl, h⟩
theorem e_X11_isAt_0 : kk_d cX11_isAt 0 (.aload_n 0) 1 1 := ⟨by decide +kernel, rfl⟩
theorem e_X11_isAt_1 : kk_d cX11_isAt 1 (.getfield 24) 3 4 := ⟨by decide +kernel, rfl⟩
theorem e_X11_isAt_4 : kk_d cX11_isAt 4 (.iload_n 1) 1 5 := ⟨by decide +kernel, rfl⟩
theorem e_X11_isAt_5 : kk_d cX11_isAt 5 .iaload 1 6 := ⟨by decide +kernel, rfl⟩
theorem e_X11_isAt_6 : kk_d cX11_isAt 6 (.iload_n 2) 1 7 := ⟨by decide +kernel, rfl⟩
theorem e_X11_isAt_7 : kk_dj cX11_isAt 7 (.if_icmp .eq 13) 3 (13) 10 20 := ⟨by decide +kernel, rfl, by decide⟩
theorem e_X11_isAt_25 : kk_d cX11_isAt 25 .ireturn 1 26 := ⟨by decide +kernel, rfl⟩
theorem e_X11_isAt_20 : kk_d cX11_isAt 20 (.iconst 1) 1 21 := ⟨by decide +kernel, rfl⟩
theorem e_X11_isAt_21 : kk_dj cX11_isAt 21 (.goto 4) 3 (4) 24 25 := ⟨by decide +kernel, rfl, by decide⟩
theorem e_X11_isAt_10 : kk_d cX11_isAt 10 (.aload_n 0) 1 11 := ⟨by decide +kernel, rfl⟩
theorem e_X11_isAt_11 : kk_d cX11_isAt 11 (.getfield 28) 3 14 := ⟨by decide +kernel, rfl⟩
theorem e_X11_isAt_14 : kk_d cX11_isAt 14 (.iload_n 1) 1 15 := ⟨by decide +kernel, rfl⟩
theorem e_X11_isAt_15 : kk_d cX11_isAt 15 .iaload 1 16 := ⟨by decide +kernel, rfl⟩
theorem e_X11_isAt_16 : kk_d cX11_isAt 16 (.iload_n 2) 1 17 := ⟨by decide +kernel, rfl⟩
theorem e_X11_isAt_17 : kk_dj cX11_isAt 17 (.if_icmp .ne 7) 3 (7) 20 24 := ⟨by decide +kernel, rfl, by decide⟩
theorem e_X11_isAt_24 : kk_d cX11_isAt 24 (.iconst 0) 1 25 := ⟨by decide +kernel, rfl⟩
set_option maxRecDepth 4000 in
theorem s_X11_isAt (Z : kk_Z) (v1 : Int32) (v2 : Int32) (σ : kk_St) (Q : Int32 → Prop) (h : f_X11_isAt v1 v2 σ Q) : kk_M Z sh_M yX11_isAt cX11_isAt 3 (some .boolean) (kk_R 2) [.ref (Z.2.1 0), .int v1, .int v2] σ (kk_Qi Z sh_M (fun r σ' => σ' = σ ∧ Q r)) := by
  unfold f_X11_isAt at h
  refine kk_met (own := RX11) (by decide) rfl (Nat.le_of_ble_eq_true rfl) rfl ?_
  refine kk_aload_n 0 rfl e_X11_isAt_0 ?_
  refine kk_getr e_X11_isAt_1 fl_X11_24 rfl rfl ?_
  refine kk_iload_n 1 rfl e_X11_isAt_4 ?_
  refine kk_iald e_X11_isAt_5 rfl h.1 ?_
  replace h := h.2
  refine kk_iload_n 2 rfl e_X11_isAt_6 ?_
  refine kk_jW1 (P := fun (t_1 : Int32) => KK Z sh_M RX11 cX11_isAt 3 (some .boolean) (kk_R 2) (kk_Qi Z sh_M (fun r σ' => σ' = σ ∧ Q r)) 25 [] [.int t_1] σ) h ?_ ?_
  · intro t_1 h
    exact kk_zret e_X11_isAt_25 h.1 ⟨rfl, h.2⟩
  · intro J_2 hJ_2 h
    refine kk_jW0 (P := KK Z sh_M RX11 cX11_isAt 3 (some .boolean) (kk_R 2) (kk_Qi Z sh_M (fun r σ' => σ' = σ ∧ Q r)) 20 [] [] σ) h ?_ ?_
    · intro h
      refine kk_iconst ic_1 e_X11_isAt_20 ?_
      refine kk_goto e_X11_isAt_21 ?_
      exact kk_sub [] rfl (hJ_2 (1 : Int32) h)
    · intro J_3 hJ_3 h
      refine kk_icmp_eq e_X11_isAt_7 (fun c_5 => ?_) (fun c_5 => ?_)
      · replace h := h.1 c_5
        exact kk_sub [] rfl (hJ_3 h)
      · replace h := h.2 c_5
        refine kk_aload_n 0 rfl e_X11_isAt_10 ?_
        refine kk_getr e_X11_isAt_11 fl_X11_28 rfl rfl ?_
        refine kk_iload_n 1 rfl e_X11_isAt_14 ?_
        refine kk_iald e_X11_isAt_15 rfl h.1 ?_
        replace h := h.2
        refine kk_iload_n 2 rfl e_X11_isAt_16 ?_
        refine kk_icmp_ne e_X11_isAt_17 (fun c_4 => ?_) (fun c_4 => ?_)
        · replace h := h.1 c_4
          refine kk_iconst ic_0 e_X11_isAt_24 ?_
          exact kk_sub [] rfl (hJ_2 (0 : Int32) h)
        · replace h := h.2 c_4
          exact kk_sub [] rfl (hJ_3 h)
theorem e_X11_linesAt_0 : kk_d cX11_linesAt 0 (.iconst 0) 1 1 := ⟨by decide +kernel, rfl⟩
theorem e_X11_linesAt_1 : kk_d cX11_linesAt 1 (.istore_n 3) 1 2 := ⟨by decide +kernel, rfl⟩
theorem e_X11_linesAt_2 : kk_d cX11_linesAt 2 (.iconst 0) 1 3 := ⟨by decide +kernel, rfl⟩
theorem e_X11_linesAt_3 : kk_d cX11_linesAt 3 (.istore 4) 2 5 := ⟨by decide +kernel, rfl⟩
theorem e_X11_linesAt_5 : kk_d cX11_linesAt 5 (.iload 4) 2 7 := ⟨by decide +kernel, rfl⟩
theorem e_X11_linesAt_7 : kk_d cX11_linesAt 7 (.aload_n 0) 1 8 := ⟨by decide +kernel, rfl⟩
theorem e_X11_linesAt_8 : kk_d cX11_linesAt 8 (.getfield 96) 3 11 := ⟨by decide +kernel, rfl⟩
theorem e_X11_linesAt_11 : kk_dj cX11_linesAt 11 (.if_icmp .ge 31) 3 (31) 14 42 := ⟨by decide +kernel, rfl, by decide⟩
theorem e_X11_linesAt_42 : kk_d cX11_linesAt 42 (.iload_n 3) 1 43 := ⟨by decide +kernel, rfl⟩
theorem e_X11_linesAt_43 : kk_d cX11_linesAt 43 .ireturn 1 44 := ⟨by decide +kernel, rfl⟩
theorem e_X11_linesAt_14 : kk_d cX11_linesAt 14 (.iload_n 2) 1 15 := ⟨by decide +kernel, rfl⟩
theorem e_X11_linesAt_15 : kk_d cX11_linesAt 15 (.iload 4) 2 17 := ⟨by decide +kernel, rfl⟩
theorem e_X11_linesAt_17 : kk_d cX11_linesAt 17 (.invokestatic 11) 3 20 := ⟨by decide +kernel, rfl⟩
theorem e_X11_linesAt_20 : kk_dj cX11_linesAt 20 (.ifCond .eq 16) 3 (16) 23 36 := ⟨by decide +kernel, rfl, by decide⟩
theorem e_X11_linesAt_36 : kk_d cX11_linesAt 36 (.iinc 4 1) 3 39 := ⟨by decide +kernel, rfl⟩
theorem e_X11_linesAt_39 : kk_dj cX11_linesAt 39 (.goto (-34)) 3 (-34) 42 5 := ⟨by decide +kernel, rfl, by decide⟩
theorem e_X11_linesAt_23 : kk_d cX11_linesAt 23 (.aload_n 0) 1 24 := ⟨by decide +kernel, rfl⟩
theorem e_X11_linesAt_24 : kk_d cX11_linesAt 24 (.iload 4) 2 26 := ⟨by decide +kernel, rfl⟩
theorem e_X11_linesAt_26 : kk_d cX11_linesAt 26 (.iload_n 1) 1 27 := ⟨by decide +kernel, rfl⟩
theorem e_X11_linesAt_27 : kk_d cX11_linesAt 27 (.invokevirtual 114) 3 30 := ⟨by decide +kernel, rfl⟩
theorem e_X11_linesAt_30 : kk_dj cX11_linesAt 30 (.ifCond .eq 6) 3 (6) 33 36 := ⟨by decide +kernel, rfl, by decide⟩
theorem e_X11_linesAt_33 : kk_d cX11_linesAt 33 (.iinc 3 1) 3 36 := ⟨by decide +kernel, rfl⟩
set_option maxRecDepth 4000 in
theorem s_X11_linesAt (Z : kk_Z) (v1 : Int32) (v2 : Int32) (σ : kk_St) (Q : Int32 → Prop) (h : f_X11_linesAt v1 v2 σ Q) : kk_M Z sh_M yX11_linesAt cX11_linesAt 5 (some .int) (kk_R 3) [.ref (Z.2.1 0), .int v1, .int v2] σ (kk_Qi Z sh_M (fun r σ' => σ' = σ ∧ Q r)) := by
  unfold f_X11_linesAt at h
  refine kk_met (own := RX11) (by decide) rfl (Nat.le_of_ble_eq_true rfl) rfl ?_
  refine kk_iconst ic_0 e_X11_linesAt_0 ?_
  refine kk_istore_n (lv' := [(3, .int (0 : Int32)), (0, .ref (Z.2.1 0)), (1, .int v1), (2, .int v2)]) e_X11_linesAt_1 rfl (by decide) rfl ?_
  refine kk_iconst ic_0 e_X11_linesAt_2 ?_
  refine kk_istore (lv' := [(4, .int (0 : Int32)), (3, .int (0 : Int32)), (0, .ref (Z.2.1 0)), (1, .int v1), (2, .int v2)]) e_X11_linesAt_3 (by decide) rfl ?_
  refine kk_sub [2, 3, 4, 1, 0] rfl ?_
  refine kk_lpW2 (P := fun (v3_1 : Int32) (v4_2 : Int32) => KK Z sh_M RX11 cX11_linesAt 5 (some .int) (kk_R 3) (kk_Qi Z sh_M (fun r σ' => σ' = σ ∧ Q r)) 5 [(0, .ref (Z.2.1 0)), (1, .int v1), (2, .int v2), (3, .int v3_1), (4, .int v4_2)] [] σ) ?_ h
  intro rec_3 hrec_3 v3_1 v4_2 h
  refine kk_iload 4 rfl e_X11_linesAt_5 ?_
  refine kk_aload_n 0 rfl e_X11_linesAt_7 ?_
  refine kk_geti e_X11_linesAt_8 fl_X11_96 rfl rfl ?_
  refine kk_icmp_ge e_X11_linesAt_11 (fun c_10 => ?_) (fun c_10 => ?_)
  · replace h := h.1 c_10
    refine kk_iload_n 3 rfl e_X11_linesAt_42 ?_
    exact kk_iret e_X11_linesAt_43 ⟨rfl, h⟩
  · replace h := h.2 c_10
    refine kk_iload_n 2 rfl e_X11_linesAt_14 ?_
    refine kk_iload 4 rfl e_X11_linesAt_15 ?_
    refine kk_callSip (As := [.int v2, .int v4_2]) (rest := []) e_X11_linesAt_17 ml_X11_11 rfl (kk_fitR (by decide) (by decide)) (Nat.le_of_ble_eq_true rfl) rfl (s_X11_has Z v2 v4_2 σ _ h) (fun r_4 h => ?_)
    refine kk_jW1 (P := fun (v3_5 : Int32) => KK Z sh_M RX11 cX11_linesAt 5 (some .int) (kk_R 3) (kk_Qi Z sh_M (fun r σ' => σ' = σ ∧ Q r)) 36 [(0, .ref (Z.2.1 0)), (1, .int v1), (2, .int v2), (3, .int v3_5), (4, .int v4_2)] [] σ) h ?_ ?_
    · intro v3_5 h
      refine kk_iinc (lv' := [(4, .int (v4_2 + (1 : Int32))), (0, .ref (Z.2.1 0)), (1, .int v1), (2, .int v2), (3, .int v3_5)]) e_X11_linesAt_36 (j := 4) rfl (ii_1 v4_2) (by decide) rfl ?_
      refine kk_goto e_X11_linesAt_39 ?_
      exact kk_sub [1, 2, 3, 4, 0] rfl (hrec_3 v3_5 (v4_2 + (1 : Int32)) h)
    · intro J_6 hJ_6 h
      refine kk_if_eq e_X11_linesAt_20 (fun c_9 => ?_) (fun c_9 => ?_)
      · replace h := h.1 c_9
        exact kk_sub [0, 1, 2, 3, 4] rfl (hJ_6 v3_1 h)
      · replace h := h.2 c_9
        refine kk_aload_n 0 rfl e_X11_linesAt_23 ?_
        refine kk_iload 4 rfl e_X11_linesAt_24 ?_
        refine kk_iload_n 1 rfl e_X11_linesAt_26 ?_
        refine kk_callVip (As := [.int v4_2, .int v1]) (rest := []) e_X11_linesAt_27 ml_X11_114 ⟨_, _, _, _, rfl, rfl⟩ rfl (kk_fitR (by decide) (by decide)) (Nat.le_of_ble_eq_true rfl) rfl (s_X11_isAt Z v4_2 v1 σ _ h) (fun r_7 h => ?_)
        refine kk_if_eq e_X11_linesAt_30 (fun c_8 => ?_) (fun c_8 => ?_)
        · replace h := h.1 c_8
          exact kk_sub [0, 1, 2, 3, 4] rfl (hJ_6 v3_1 h)
        · replace h := h.2 c_8
          refine kk_iinc (lv' := [(3, .int (v3_1 + (1 : Int32))), (0, .ref (Z.2.1 0)), (1, .int v1), (2, .int v2), (4, .int v4_2)]) e_X11_linesAt_33 (j := 3) rfl (ii_1 v3_1) (by decide) rfl ?_
          exact kk_sub [1, 2, 3, 0, 4] rfl (hJ_6 (v3_1 + (1 : Int32)) h)
theorem e_X11_degreeOf_0 : kk_d cX11_degreeOf 0 (.iconst 0) 1 1 := ⟨by decide +kernel, rfl⟩
theorem e_X11_degreeOf_1 : kk_d cX11_degreeOf 1 (.istore_n 2) 1 2 := ⟨by decide +kernel, rfl⟩
theorem e_X11_degreeOf_2 : kk_d cX11_degreeOf 2 (.iconst 0) 1 3 := ⟨by decide +kernel, rfl⟩
theorem e_X11_degreeOf_3 : kk_d cX11_degreeOf 3 (.istore_n 3) 1 4 := ⟨by decide +kernel, rfl⟩
theorem e_X11_degreeOf_4 : kk_d cX11_degreeOf 4 (.iload_n 3) 1 5 := ⟨by decide +kernel, rfl⟩
theorem e_X11_degreeOf_5 : kk_d cX11_degreeOf 5 (.aload_n 0) 1 6 := ⟨by decide +kernel, rfl⟩
theorem e_X11_degreeOf_6 : kk_d cX11_degreeOf 6 (.getfield 21) 3 9 := ⟨by decide +kernel, rfl⟩
theorem e_X11_degreeOf_9 : kk_dj cX11_degreeOf 9 (.if_icmp .ge 26) 3 (26) 12 35 := ⟨by decide +kernel, rfl, by decide⟩
theorem e_X11_degreeOf_35 : kk_d cX11_degreeOf 35 (.iload_n 2) 1 36 := ⟨by decide +kernel, rfl⟩
theorem e_X11_degreeOf_36 : kk_d cX11_degreeOf 36 .ireturn 1 37 := ⟨by decide +kernel, rfl⟩
theorem e_X11_degreeOf_12 : kk_d cX11_degreeOf 12 (.aload_n 0) 1 13 := ⟨by decide +kernel, rfl⟩
theorem e_X11_degreeOf_13 : kk_d cX11_degreeOf 13 (.iload_n 3) 1 14 := ⟨by decide +kernel, rfl⟩
theorem e_X11_degreeOf_14 : kk_d cX11_degreeOf 14 (.iload_n 1) 1 15 := ⟨by decide +kernel, rfl⟩
theorem e_X11_degreeOf_15 : kk_d cX11_degreeOf 15 (.invokevirtual 117) 3 18 := ⟨by decide +kernel, rfl⟩
theorem e_X11_degreeOf_18 : kk_d cX11_degreeOf 18 (.istore 4) 2 20 := ⟨by decide +kernel, rfl⟩
theorem e_X11_degreeOf_20 : kk_d cX11_degreeOf 20 (.iload 4) 2 22 := ⟨by decide +kernel, rfl⟩
theorem e_X11_degreeOf_22 : kk_d cX11_degreeOf 22 (.iload_n 2) 1 23 := ⟨by decide +kernel, rfl⟩
theorem e_X11_degreeOf_23 : kk_dj cX11_degreeOf 23 (.if_icmp .le 6) 3 (6) 26 29 := ⟨by decide +kernel, rfl, by decide⟩
theorem e_X11_degreeOf_29 : kk_d cX11_degreeOf 29 (.iinc 3 1) 3 32 := ⟨by decide +kernel, rfl⟩
theorem e_X11_degreeOf_32 : kk_dj cX11_degreeOf 32 (.goto (-28)) 3 (-28) 35 4 := ⟨by decide +kernel, rfl, by decide⟩
theorem e_X11_degreeOf_26 : kk_d cX11_degreeOf 26 (.iload 4) 2 28 := ⟨by decide +kernel, rfl⟩
theorem e_X11_degreeOf_28 : kk_d cX11_degreeOf 28 (.istore_n 2) 1 29 := ⟨by decide +kernel, rfl⟩
set_option maxRecDepth 4000 in
theorem s_X11_degreeOf (Z : kk_Z) (v1 : Int32) (σ : kk_St) (Q : Int32 → Prop) (h : f_X11_degreeOf v1 σ Q) : kk_M Z sh_M yX11_degreeOf cX11_degreeOf 5 (some .int) (kk_R 4) [.ref (Z.2.1 0), .int v1] σ (kk_Qi Z sh_M (fun r σ' => σ' = σ ∧ Q r)) := by
  unfold f_X11_degreeOf at h
  refine kk_met (own := RX11) (by decide) rfl (Nat.le_of_ble_eq_true rfl) rfl ?_
  refine kk_iconst ic_0 e_X11_degreeOf_0 ?_
  refine kk_istore_n (lv' := [(2, .int (0 : Int32)), (0, .ref (Z.2.1 0)), (1, .int v1)]) e_X11_degreeOf_1 rfl (by decide) rfl ?_
  refine kk_iconst ic_0 e_X11_degreeOf_2 ?_
  refine kk_istore_n (lv' := [(3, .int (0 : Int32)), (2, .int (0 : Int32)), (0, .ref (Z.2.1 0)), (1, .int v1)]) e_X11_degreeOf_3 rfl (by decide) rfl ?_
  refine kk_sub [2, 3, 1, 0] rfl ?_
  refine kk_lpW2 (P := fun (v2_1 : Int32) (v3_2 : Int32) => KK Z sh_M RX11 cX11_degreeOf 5 (some .int) (kk_R 4) (kk_Qi Z sh_M (fun r σ' => σ' = σ ∧ Q r)) 4 [(0, .ref (Z.2.1 0)), (1, .int v1), (2, .int v2_1), (3, .int v3_2)] [] σ) ?_ h
  intro rec_3 hrec_3 v2_1 v3_2 h
  refine kk_iload_n 3 rfl e_X11_degreeOf_4 ?_
  refine kk_aload_n 0 rfl e_X11_degreeOf_5 ?_
  refine kk_geti e_X11_degreeOf_6 fl_X11_21 rfl rfl ?_
  refine kk_icmp_ge e_X11_degreeOf_9 (fun c_8 => ?_) (fun c_8 => ?_)
  · replace h := h.1 c_8
    refine kk_iload_n 2 rfl e_X11_degreeOf_35 ?_
    exact kk_iret e_X11_degreeOf_36 ⟨rfl, h⟩
  · replace h := h.2 c_8
    refine kk_aload_n 0 rfl e_X11_degreeOf_12 ?_
    refine kk_iload_n 3 rfl e_X11_degreeOf_13 ?_
    refine kk_iload_n 1 rfl e_X11_degreeOf_14 ?_
    refine kk_callVip (As := [.int v3_2, .int v1]) (rest := []) e_X11_degreeOf_15 ml_X11_117 ⟨_, _, _, _, rfl, rfl⟩ rfl (kk_fitR (by decide) (by decide)) (Nat.le_of_ble_eq_true rfl) rfl (s_X11_linesAt Z v3_2 v1 σ _ h) (fun r_4 h => ?_)
    refine kk_istore (lv' := [(4, .int r_4), (0, .ref (Z.2.1 0)), (1, .int v1), (2, .int v2_1), (3, .int v3_2)]) e_X11_degreeOf_18 (by decide) rfl ?_
    refine kk_iload 0 rfl e_X11_degreeOf_20 ?_
    refine kk_iload_n 3 rfl e_X11_degreeOf_22 ?_
    refine kk_jW1 (P := fun (v2_5 : Int32) => KK Z sh_M RX11 cX11_degreeOf 5 (some .int) (kk_R 4) (kk_Qi Z sh_M (fun r σ' => σ' = σ ∧ Q r)) 29 [(0, .ref (Z.2.1 0)), (1, .int v1), (2, .int v2_5), (3, .int v3_2)] [] σ) h ?_ ?_
    · intro v2_5 h
      refine kk_iinc (lv' := [(3, .int (v3_2 + (1 : Int32))), (0, .ref (Z.2.1 0)), (1, .int v1), (2, .int v2_5)]) e_X11_degreeOf_29 (j := 3) rfl (ii_1 v3_2) (by decide) rfl ?_
      refine kk_goto e_X11_degreeOf_32 ?_
      exact kk_sub [1, 2, 3, 0] rfl (hrec_3 v2_5 (v3_2 + (1 : Int32)) h)
    · intro J_6 hJ_6 h
      refine kk_icmp_le e_X11_degreeOf_23 (fun c_7 => ?_) (fun c_7 => ?_)
      · replace h := h.1 c_7
        exact kk_sub [1, 2, 3, 4] rfl (hJ_6 v2_1 h)
      · replace h := h.2 c_7
        refine kk_iload 0 rfl e_X11_degreeOf_26 ?_
        refine kk_istore_n (lv' := [(2, .int r_4), (4, .int r_4), (0, .ref (Z.2.1 0)), (1, .int v1), (3, .int v3_2)]) e_X11_degreeOf_28 rfl (by decide) rfl ?_
        exact kk_sub [2, 3, 0, 4] rfl (hJ_6 r_4 h)
theorem e_X11_degree_0 : kk_d cX11_degree 0 (.aload_n 0) 1 1 := ⟨by decide +kernel, rfl⟩
theorem e_X11_degree_1 : kk_d cX11_degree 1 (.aload_n 0) 1 2 := ⟨by decide +kernel, rfl⟩
theorem e_X11_degree_2 : kk_d cX11_degree 2 (.invokevirtual 120) 3 5 := ⟨by decide +kernel, rfl⟩
theorem e_X11_degree_5 : kk_d cX11_degree 5 (.invokevirtual 124) 3 8 := ⟨by decide +kernel, rfl⟩
theorem e_X11_degree_8 : kk_d cX11_degree 8 .ireturn 1 9 := ⟨by decide +kernel, rfl⟩
set_option maxRecDepth 4000 in
theorem s_X11_degree (Z : kk_Z) (σ : kk_St) (Q : Int32 → Prop) (h : f_X11_degree σ Q) : kk_M Z sh_M yX11_degree cX11_degree 1 (some .int) (kk_R 5) [.ref (Z.2.1 0)] σ (kk_Qi Z sh_M (fun r σ' => σ' = σ ∧ Q r)) := by
  unfold f_X11_degree at h
  refine kk_met (own := RX11) (by decide) rfl (Nat.le_of_ble_eq_true rfl) rfl ?_
  refine kk_aload_n 0 rfl e_X11_degree_0 ?_
  refine kk_aload_n 0 rfl e_X11_degree_1 ?_
  refine kk_callVip (As := []) (rest := [.ref (Z.2.1 0)]) e_X11_degree_2 ml_X11_120 ⟨_, _, _, _, rfl, rfl⟩ rfl (kk_fitR (by decide) (by decide)) (Nat.le_of_ble_eq_true rfl) rfl (s_X11_allLines Z σ _ h) (fun r_1 h => ?_)
  refine kk_callVip (As := [.int r_1]) (rest := []) e_X11_degree_5 ml_X11_124 ⟨_, _, _, _, rfl, rfl⟩ rfl (kk_fitR (by decide) (by decide)) (Nat.le_of_ble_eq_true rfl) rfl (s_X11_degreeOf Z r_1 σ _ h) (fun r_2 h => ?_)
  exact kk_iret e_X11_degree_8 ⟨rfl, h⟩
theorem e_X11_isColour_0 : kk_d cX11_isColour 0 (.iload_n 1) 1 1 := ⟨by decide +kernel, rfl⟩
theorem e_X11_isColour_1 : kk_d cX11_isColour 1 (.iconst 0) 1 2 := ⟨by decide +kernel, rfl⟩
theorem e_X11_isColour_2 : kk_d cX11_isColour 2 (.aload_n 0) 1 3 := ⟨by decide +kernel, rfl⟩
theorem e_X11_isColour_3 : kk_d cX11_isColour 3 (.invokevirtual 128) 3 6 := ⟨by decide +kernel, rfl⟩
theorem e_X11_isColour_6 : kk_d cX11_isColour 6 (.invokestatic 92) 3 9 := ⟨by decide +kernel, rfl⟩
theorem e_X11_isColour_9 : kk_d cX11_isColour 9 .ireturn 1 10 := ⟨by decide +kernel, rfl⟩
set_option maxRecDepth 4000 in
theorem s_X11_isColour (Z : kk_Z) (v1 : Int32) (σ : kk_St) (Q : Int32 → Prop) (h : f_X11_isColour v1 σ Q) : kk_M Z sh_M yX11_isColour cX11_isColour 2 (some .boolean) (kk_R 6) [.ref (Z.2.1 0), .int v1] σ (kk_Qi Z sh_M (fun r σ' => σ' = σ ∧ Q r)) := by
  unfold f_X11_isColour at h
  refine kk_met (own := RX11) (by decide) rfl (Nat.le_of_ble_eq_true rfl) rfl ?_
  refine kk_iload_n 1 rfl e_X11_isColour_0 ?_
  refine kk_iconst ic_0 e_X11_isColour_1 ?_
  refine kk_aload_n 0 rfl e_X11_isColour_2 ?_
  refine kk_callVip (As := []) (rest := [.int (0 : Int32), .int v1]) e_X11_isColour_3 ml_X11_128 ⟨_, _, _, _, rfl, rfl⟩ rfl (kk_fitR (by decide) (by decide)) (Nat.le_of_ble_eq_true rfl) rfl (s_X11_degree Z σ _ h) (fun r_1 h => ?_)
  refine kk_callSip (As := [.int v1, .int (0 : Int32), .int r_1]) (rest := []) e_X11_isColour_6 ml_X11_92 rfl (kk_fitR (by decide) (by decide)) (Nat.le_of_ble_eq_true rfl) rfl (s_X11_in Z v1 (0 : Int32) r_1 σ _ h) (fun r_2 h => ?_)
  exact kk_zret e_X11_isColour_9 h.1 ⟨rfl, h.2⟩
theorem e_X11_areColours_0 : kk_d cX11_areColours 0 (.aload_n 0) 1 1 := ⟨by decide +kernel, rfl⟩
theorem e_X11_areColours_1 : kk_d cX11_areColours 1 (.iload_n 1) 1 2 := ⟨by decide +kernel, rfl⟩
theorem e_X11_areColours_2 : kk_d cX11_areColours 2 (.invokevirtual 131) 3 5 := ⟨by decide +kernel, rfl⟩
theorem e_X11_areColours_5 : kk_dj cX11_areColours 5 (.ifCond .eq 20) 3 (20) 8 25 := ⟨by decide +kernel, rfl, by decide⟩
theorem e_X11_areColours_26 : kk_d cX11_areColours 26 .ireturn 1 27 := ⟨by decide +kernel, rfl⟩
theorem e_X11_areColours_25 : kk_d cX11_areColours 25 (.iconst 0) 1 26 := ⟨by decide +kernel, rfl⟩
theorem e_X11_areColours_8 : kk_d cX11_areColours 8 (.aload_n 0) 1 9 := ⟨by decide +kernel, rfl⟩
theorem e_X11_areColours_9 : kk_d cX11_areColours 9 (.iload_n 2) 1 10 := ⟨by decide +kernel, rfl⟩
theorem e_X11_areColours_10 : kk_d cX11_areColours 10 (.invokevirtual 131) 3 13 := ⟨by decide +kernel, rfl⟩
theorem e_X11_areColours_13 : kk_dj cX11_areColours 13 (.ifCond .eq 12) 3 (12) 16 25 := ⟨by decide +kernel, rfl, by decide⟩
theorem e_X11_areColours_16 : kk_d cX11_areColours 16 (.iload_n 1) 1 17 := ⟨by decide +kernel, rfl⟩
theorem e_X11_areColours_17 : kk_d cX11_areColours 17 (.iload_n 2) 1 18 := ⟨by decide +kernel, rfl⟩
theorem e_X11_areColours_18 : kk_dj cX11_areColours 18 (.if_icmp .eq 7) 3 (7) 21 25 := ⟨by decide +kernel, rfl, by decide⟩
theorem e_X11_areColours_21 : kk_d cX11_areColours 21 (.iconst 1) 1 22 := ⟨by decide +kernel, rfl⟩
theorem e_X11_areColours_22 : kk_dj cX11_areColours 22 (.goto 4) 3 (4) 25 26 := ⟨by decide +kernel, rfl, by decide⟩
set_option maxRecDepth 4000 in
theorem s_X11_areColours (Z : kk_Z) (v1 : Int32) (v2 : Int32) (σ : kk_St) (Q : Int32 → Prop) (h : f_X11_areColours v1 v2 σ Q) : kk_M Z sh_M yX11_areColours cX11_areColours 3 (some .boolean) (kk_R 7) [.ref (Z.2.1 0), .int v1, .int v2] σ (kk_Qi Z sh_M (fun r σ' => σ' = σ ∧ Q r)) := by
  unfold f_X11_areColours at h
  refine kk_met (own := RX11) (by decide) rfl (Nat.le_of_ble_eq_true rfl) rfl ?_
  refine kk_aload_n 0 rfl e_X11_areColours_0 ?_
  refine kk_iload_n 1 rfl e_X11_areColours_1 ?_
  refine kk_callVip (As := [.int v1]) (rest := []) e_X11_areColours_2 ml_X11_131 ⟨_, _, _, _, rfl, rfl⟩ rfl (kk_fitR (by decide) (by decide)) (Nat.le_of_ble_eq_true rfl) rfl (s_X11_isColour Z v1 σ _ h) (fun r_1 h => ?_)
  refine kk_jW1 (P := fun (t_2 : Int32) => KK Z sh_M RX11 cX11_areColours 3 (some .boolean) (kk_R 7) (kk_Qi Z sh_M (fun r σ' => σ' = σ ∧ Q r)) 26 [] [.int t_2] σ) h ?_ ?_
  · intro t_2 h
    exact kk_zret e_X11_areColours_26 h.1 ⟨rfl, h.2⟩
  · intro J_3 hJ_3 h
    refine kk_jW0 (P := KK Z sh_M RX11 cX11_areColours 3 (some .boolean) (kk_R 7) (kk_Qi Z sh_M (fun r σ' => σ' = σ ∧ Q r)) 25 [] [] σ) h ?_ ?_
    · intro h
      refine kk_iconst ic_0 e_X11_areColours_25 ?_
      exact kk_sub [] rfl (hJ_3 (0 : Int32) h)
    · intro J_4 hJ_4 h
      refine kk_if_eq e_X11_areColours_5 (fun c_8 => ?_) (fun c_8 => ?_)
      · replace h := h.1 c_8
        exact kk_sub [] rfl (hJ_4 h)
      · replace h := h.2 c_8
        refine kk_aload_n 0 rfl e_X11_areColours_8 ?_
        refine kk_iload_n 2 rfl e_X11_areColours_9 ?_
        refine kk_callVip (As := [.int v2]) (rest := []) e_X11_areColours_10 ml_X11_131 ⟨_, _, _, _, rfl, rfl⟩ rfl (kk_fitR (by decide) (by decide)) (Nat.le_of_ble_eq_true rfl) rfl (s_X11_isColour Z v2 σ _ h) (fun r_5 h => ?_)
        refine kk_if_eq e_X11_areColours_13 (fun c_7 => ?_) (fun c_7 => ?_)
        · replace h := h.1 c_7
          exact kk_sub [] rfl (hJ_4 h)
        · replace h := h.2 c_7
          refine kk_iload_n 1 rfl e_X11_areColours_16 ?_
          refine kk_iload_n 2 rfl e_X11_areColours_17 ?_
          refine kk_icmp_eq e_X11_areColours_18 (fun c_6 => ?_) (fun c_6 => ?_)
          · replace h := h.1 c_6
            exact kk_sub [] rfl (hJ_4 h)
          · replace h := h.2 c_6
            refine kk_iconst ic_1 e_X11_areColours_21 ?_
            refine kk_goto e_X11_areColours_22 ?_
            exact kk_sub [] rfl (hJ_3 (1 : Int32) h)
theorem e_X11_areLike_0 : kk_d cX11_areLike 0 (.iconst 0) 1 1 := ⟨by decide +kernel, rfl⟩
theorem e_X11_areLike_1 : kk_d cX11_areLike 1 (.istore_n 1) 1 2 := ⟨by decide +kernel, rfl⟩
theorem e_X11_areLike_2 : kk_d cX11_areLike 2 (.iload_n 1) 1 3 := ⟨by decide +kernel, rfl⟩
theorem e_X11_areLike_3 : kk_d cX11_areLike 3 (.aload_n 0) 1 4 := ⟨by decide +kernel, rfl⟩
theorem e_X11_areLike_4 : kk_d cX11_areLike 4 (.getfield 96) 3 7 := ⟨by decide +kernel, rfl⟩
theorem e_X11_areLike_7 : kk_dj cX11_areLike 7 (.if_icmp .ge 100) 3 (100) 10 107 := ⟨by decide +kernel, rfl, by decide⟩
theorem e_X11_areLike_107 : kk_d cX11_areLike 107 (.iconst 1) 1 108 := ⟨by decide +kernel, rfl⟩
theorem e_X11_areLike_108 : kk_d cX11_areLike 108 .ireturn 1 109 := ⟨by decide +kernel, rfl⟩
theorem e_X11_areLike_10 : kk_d cX11_areLike 10 (.aload_n 0) 1 11 := ⟨by decide +kernel, rfl⟩
theorem e_X11_areLike_11 : kk_d cX11_areLike 11 (.getfield 37) 3 14 := ⟨by decide +kernel, rfl⟩
theorem e_X11_areLike_14 : kk_d cX11_areLike 14 (.iload_n 1) 1 15 := ⟨by decide +kernel, rfl⟩
theorem e_X11_areLike_15 : kk_d cX11_areLike 15 .iaload 1 16 := ⟨by decide +kernel, rfl⟩
theorem e_X11_areLike_16 : kk_dj cX11_areLike 16 (.ifCond .ge 7) 3 (7) 19 23 := ⟨by decide +kernel, rfl, by decide⟩
theorem e_X11_areLike_24 : kk_d cX11_areLike 24 (.aload_n 0) 1 25 := ⟨by decide +kernel, rfl⟩
theorem e_X11_areLike_25 : kk_d cX11_areLike 25 (.getfield 31) 3 28 := ⟨by decide +kernel, rfl⟩
theorem e_X11_areLike_28 : kk_d cX11_areLike 28 (.iload_n 1) 1 29 := ⟨by decide +kernel, rfl⟩
theorem e_X11_areLike_29 : kk_d cX11_areLike 29 .iaload 1 30 := ⟨by decide +kernel, rfl⟩
theorem e_X11_areLike_30 : kk_dj cX11_areLike 30 (.ifCond .ge 7) 3 (7) 33 37 := ⟨by decide +kernel, rfl, by decide⟩
theorem e_X11_areLike_38 : kk_dj cX11_areLike 38 (.if_icmp .eq 5) 3 (5) 41 43 := ⟨by decide +kernel, rfl, by decide⟩
theorem e_X11_areLike_43 : kk_d cX11_areLike 43 (.iconst 0) 1 44 := ⟨by decide +kernel, rfl⟩
theorem e_X11_areLike_44 : kk_d cX11_areLike 44 (.istore_n 2) 1 45 := ⟨by decide +kernel, rfl⟩
theorem e_X11_areLike_45 : kk_d cX11_areLike 45 (.iload_n 2) 1 46 := ⟨by decide +kernel, rfl⟩
theorem e_X11_areLike_46 : kk_d cX11_areLike 46 (.iload_n 1) 1 47 := ⟨by decide +kernel, rfl⟩
theorem e_X11_areLike_47 : kk_dj cX11_areLike 47 (.if_icmp .ge 54) 3 (54) 50 101 := ⟨by decide +kernel, rfl, by decide⟩
theorem e_X11_areLike_101 : kk_d cX11_areLike 101 (.iinc 1 1) 3 104 := ⟨by decide +kernel, rfl⟩
theorem e_X11_areLike_104 : kk_dj cX11_areLike 104 (.goto (-102)) 3 (-102) 107 2 := ⟨by decide +kernel, rfl, by decide⟩
theorem e_X11_areLike_50 : kk_d cX11_areLike 50 (.aload_n 0) 1 51 := ⟨by decide +kernel, rfl⟩
theorem e_X11_areLike_51 : kk_d cX11_areLike 51 (.getfield 37) 3 54 := ⟨by decide +kernel, rfl⟩
theorem e_X11_areLike_54 : kk_d cX11_areLike 54 (.iload_n 1) 1 55 := ⟨by decide +kernel, rfl⟩
theorem e_X11_areLike_55 : kk_d cX11_areLike 55 .iaload 1 56 := ⟨by decide +kernel, rfl⟩
theorem e_X11_areLike_56 : kk_d cX11_areLike 56 (.aload_n 0) 1 57 := ⟨by decide +kernel, rfl⟩
theorem e_X11_areLike_57 : kk_d cX11_areLike 57 (.getfield 37) 3 60 := ⟨by decide +kernel, rfl⟩
theorem e_X11_areLike_60 : kk_d cX11_areLike 60 (.iload_n 2) 1 61 := ⟨by decide +kernel, rfl⟩
theorem e_X11_areLike_61 : kk_d cX11_areLike 61 .iaload 1 62 := ⟨by decide +kernel, rfl⟩
theorem e_X11_areLike_62 : kk_dj cX11_areLike 62 (.if_icmp .ne 7) 3 (7) 65 69 := ⟨by decide +kernel, rfl, by decide⟩
theorem e_X11_areLike_70 : kk_d cX11_areLike 70 (.aload_n 0) 1 71 := ⟨by decide +kernel, rfl⟩
theorem e_X11_areLike_71 : kk_d cX11_areLike 71 (.getfield 31) 3 74 := ⟨by decide +kernel, rfl⟩
theorem e_X11_areLike_74 : kk_d cX11_areLike 74 (.iload_n 1) 1 75 := ⟨by decide +kernel, rfl⟩
theorem e_X11_areLike_75 : kk_d cX11_areLike 75 .iaload 1 76 := ⟨by decide +kernel, rfl⟩
theorem e_X11_areLike_76 : kk_d cX11_areLike 76 (.aload_n 0) 1 77 := ⟨by decide +kernel, rfl⟩
theorem e_X11_areLike_77 : kk_d cX11_areLike 77 (.getfield 31) 3 80 := ⟨by decide +kernel, rfl⟩
theorem e_X11_areLike_80 : kk_d cX11_areLike 80 (.iload_n 2) 1 81 := ⟨by decide +kernel, rfl⟩
theorem e_X11_areLike_81 : kk_d cX11_areLike 81 .iaload 1 82 := ⟨by decide +kernel, rfl⟩
theorem e_X11_areLike_82 : kk_dj cX11_areLike 82 (.if_icmp .ne 7) 3 (7) 85 89 := ⟨by decide +kernel, rfl, by decide⟩
theorem e_X11_areLike_90 : kk_dj cX11_areLike 90 (.if_icmp .eq 5) 3 (5) 93 95 := ⟨by decide +kernel, rfl, by decide⟩
theorem e_X11_areLike_95 : kk_d cX11_areLike 95 (.iinc 2 1) 3 98 := ⟨by decide +kernel, rfl⟩
theorem e_X11_areLike_98 : kk_dj cX11_areLike 98 (.goto (-53)) 3 (-53) 101 45 := ⟨by decide +kernel, rfl, by decide⟩
theorem e_X11_areLike_93 : kk_d cX11_areLike 93 (.iconst 0) 1 94 := ⟨by decide +kernel, rfl⟩
theorem e_X11_areLike_94 : kk_d cX11_areLike 94 .ireturn 1 95 := ⟨by decide +kernel, rfl⟩
theorem e_X11_areLike_89 : kk_d cX11_areLike 89 (.iconst 0) 1 90 := ⟨by decide +kernel, rfl⟩
theorem e_X11_areLike_85 : kk_d cX11_areLike 85 (.iconst 1) 1 86 := ⟨by decide +kernel, rfl⟩
theorem e_X11_areLike_86 : kk_dj cX11_areLike 86 (.goto 4) 3 (4) 89 90 := ⟨by decide +kernel, rfl, by decide⟩
theorem e_X11_areLike_69 : kk_d cX11_areLike 69 (.iconst 0) 1 70 := ⟨by decide +kernel, rfl⟩
theorem e_X11_areLike_65 : kk_d cX11_areLike 65 (.iconst 1) 1 66 := ⟨by decide +kernel, rfl⟩
theorem e_X11_areLike_66 : kk_dj cX11_areLike 66 (.goto 4) 3 (4) 69 70 := ⟨by decide +kernel, rfl, by decide⟩
theorem e_X11_areLike_41 : kk_d cX11_areLike 41 (.iconst 0) 1 42 := ⟨by decide +kernel, rfl⟩
theorem e_X11_areLike_42 : kk_d cX11_areLike 42 .ireturn 1 43 := ⟨by decide +kernel, rfl⟩
theorem e_X11_areLike_37 : kk_d cX11_areLike 37 (.iconst 0) 1 38 := ⟨by decide +kernel, rfl⟩
theorem e_X11_areLike_33 : kk_d cX11_areLike 33 (.iconst 1) 1 34 := ⟨by decide +kernel, rfl⟩
theorem e_X11_areLike_34 : kk_dj cX11_areLike 34 (.goto 4) 3 (4) 37 38 := ⟨by decide +kernel, rfl, by decide⟩
theorem e_X11_areLike_23 : kk_d cX11_areLike 23 (.iconst 0) 1 24 := ⟨by decide +kernel, rfl⟩
theorem e_X11_areLike_19 : kk_d cX11_areLike 19 (.iconst 1) 1 20 := ⟨by decide +kernel, rfl⟩
theorem e_X11_areLike_20 : kk_dj cX11_areLike 20 (.goto 4) 3 (4) 23 24 := ⟨by decide +kernel, rfl, by decide⟩
set_option maxRecDepth 4000 in
theorem s_X11_areLike (Z : kk_Z) (σ : kk_St) (Q : Int32 → Prop) (h : f_X11_areLike σ Q) : kk_M Z sh_M yX11_areLike cX11_areLike 3 (some .boolean) (kk_R 2) [.ref (Z.2.1 0)] σ (kk_Qi Z sh_M (fun r σ' => σ' = σ ∧ Q r)) := by
  unfold f_X11_areLike at h
  refine kk_met (own := RX11) (by decide) rfl (Nat.le_of_ble_eq_true rfl) rfl ?_
  refine kk_iconst ic_0 e_X11_areLike_0 ?_
  refine kk_istore_n (lv' := [(1, .int (0 : Int32)), (0, .ref (Z.2.1 0))]) e_X11_areLike_1 rfl (by decide) rfl ?_
  refine kk_sub [1, 0] rfl ?_
  refine kk_lpW1 (P := fun (v1_1 : Int32) => KK Z sh_M RX11 cX11_areLike 3 (some .boolean) (kk_R 2) (kk_Qi Z sh_M (fun r σ' => σ' = σ ∧ Q r)) 2 [(0, .ref (Z.2.1 0)), (1, .int v1_1)] [] σ) ?_ h
  intro rec_2 hrec_2 v1_1 h
  refine kk_iload_n 1 rfl e_X11_areLike_2 ?_
  refine kk_aload_n 0 rfl e_X11_areLike_3 ?_
  refine kk_geti e_X11_areLike_4 fl_X11_96 rfl rfl ?_
  refine kk_icmp_ge e_X11_areLike_7 (fun c_20 => ?_) (fun c_20 => ?_)
  · replace h := h.1 c_20
    refine kk_iconst ic_1 e_X11_areLike_107 ?_
    exact kk_zret e_X11_areLike_108 (Or.inr rfl) ⟨rfl, h⟩
  · replace h := h.2 c_20
    refine kk_aload_n 0 rfl e_X11_areLike_10 ?_
    refine kk_getr e_X11_areLike_11 fl_X11_37 rfl rfl ?_
    refine kk_iload_n 1 rfl e_X11_areLike_14 ?_
    refine kk_iald e_X11_areLike_15 rfl h.1 ?_
    replace h := h.2
    refine kk_jW1 (P := fun (t_3 : Int32) => KK Z sh_M RX11 cX11_areLike 3 (some .boolean) (kk_R 2) (kk_Qi Z sh_M (fun r σ' => σ' = σ ∧ Q r)) 24 [(0, .ref (Z.2.1 0)), (1, .int v1_1)] [.int t_3] σ) h ?_ ?_
    · intro t_3 h
      refine kk_aload_n 0 rfl e_X11_areLike_24 ?_
      refine kk_getr e_X11_areLike_25 fl_X11_31 rfl rfl ?_
      refine kk_iload_n 1 rfl e_X11_areLike_28 ?_
      refine kk_iald e_X11_areLike_29 rfl h.1 ?_
      replace h := h.2
      refine kk_jW1 (P := fun (t_5 : Int32) => KK Z sh_M RX11 cX11_areLike 3 (some .boolean) (kk_R 2) (kk_Qi Z sh_M (fun r σ' => σ' = σ ∧ Q r)) 38 [(0, .ref (Z.2.1 0)), (1, .int v1_1)] [.int t_5, .int t_3] σ) h ?_ ?_
      · intro t_5 h
        refine kk_icmp_eq e_X11_areLike_38 (fun c_17 => ?_) (fun c_17 => ?_)
        · replace h := h.1 c_17
          refine kk_iconst ic_0 e_X11_areLike_43 ?_
          refine kk_istore_n (lv' := [(2, .int (0 : Int32)), (0, .ref (Z.2.1 0)), (1, .int v1_1)]) e_X11_areLike_44 rfl (by decide) rfl ?_
          refine kk_sub [1, 2, 0] rfl ?_
          refine kk_lpW1 (P := fun (v2_7 : Int32) => KK Z sh_M RX11 cX11_areLike 3 (some .boolean) (kk_R 2) (kk_Qi Z sh_M (fun r σ' => σ' = σ ∧ Q r)) 45 [(0, .ref (Z.2.1 0)), (1, .int v1_1), (2, .int v2_7)] [] σ) ?_ h
          intro rec_8 hrec_8 v2_7 h
          refine kk_iload_n 2 rfl e_X11_areLike_45 ?_
          refine kk_iload_n 1 rfl e_X11_areLike_46 ?_
          refine kk_icmp_ge e_X11_areLike_47 (fun c_16 => ?_) (fun c_16 => ?_)
          · replace h := h.1 c_16
            refine kk_iinc (lv' := [(1, .int (v1_1 + (1 : Int32))), (0, .ref (Z.2.1 0)), (2, .int v2_7)]) e_X11_areLike_101 (j := 1) rfl (ii_1 v1_1) (by decide) rfl ?_
            refine kk_goto e_X11_areLike_104 ?_
            exact kk_sub [1, 0] rfl (hrec_2 (v1_1 + (1 : Int32)) h)
          · replace h := h.2 c_16
            refine kk_aload_n 0 rfl e_X11_areLike_50 ?_
            refine kk_getr e_X11_areLike_51 fl_X11_37 rfl rfl ?_
            refine kk_iload_n 1 rfl e_X11_areLike_54 ?_
            refine kk_iald e_X11_areLike_55 rfl h.1 ?_
            replace h := h.2
            refine kk_aload_n 0 rfl e_X11_areLike_56 ?_
            refine kk_getr e_X11_areLike_57 fl_X11_37 rfl rfl ?_
            refine kk_iload_n 2 rfl e_X11_areLike_60 ?_
            refine kk_iald e_X11_areLike_61 rfl h.1 ?_
            replace h := h.2
            refine kk_jW1 (P := fun (t_9 : Int32) => KK Z sh_M RX11 cX11_areLike 3 (some .boolean) (kk_R 2) (kk_Qi Z sh_M (fun r σ' => σ' = σ ∧ Q r)) 70 [(0, .ref (Z.2.1 0)), (1, .int v1_1), (2, .int v2_7)] [.int t_9] σ) h ?_ ?_
            · intro t_9 h
              refine kk_aload_n 0 rfl e_X11_areLike_70 ?_
              refine kk_getr e_X11_areLike_71 fl_X11_31 rfl rfl ?_
              refine kk_iload_n 1 rfl e_X11_areLike_74 ?_
              refine kk_iald e_X11_areLike_75 rfl h.1 ?_
              replace h := h.2
              refine kk_aload_n 0 rfl e_X11_areLike_76 ?_
              refine kk_getr e_X11_areLike_77 fl_X11_31 rfl rfl ?_
              refine kk_iload_n 2 rfl e_X11_areLike_80 ?_
              refine kk_iald e_X11_areLike_81 rfl h.1 ?_
              replace h := h.2
              refine kk_jW1 (P := fun (t_11 : Int32) => KK Z sh_M RX11 cX11_areLike 3 (some .boolean) (kk_R 2) (kk_Qi Z sh_M (fun r σ' => σ' = σ ∧ Q r)) 90 [(0, .ref (Z.2.1 0)), (1, .int v1_1), (2, .int v2_7)] [.int t_11, .int t_9] σ) h ?_ ?_
              · intro t_11 h
                refine kk_icmp_eq e_X11_areLike_90 (fun c_13 => ?_) (fun c_13 => ?_)
                · replace h := h.1 c_13
                  refine kk_iinc (lv' := [(2, .int (v2_7 + (1 : Int32))), (0, .ref (Z.2.1 0)), (1, .int v1_1)]) e_X11_areLike_95 (j := 2) rfl (ii_1 v2_7) (by decide) rfl ?_
                  refine kk_goto e_X11_areLike_98 ?_
                  exact kk_sub [1, 2, 0] rfl (hrec_8 (v2_7 + (1 : Int32)) h)
                · replace h := h.2 c_13
                  refine kk_iconst ic_0 e_X11_areLike_93 ?_
                  exact kk_zret e_X11_areLike_94 (Or.inl rfl) ⟨rfl, h⟩
              · intro J_12 hJ_12 h
                refine kk_icmp_ne e_X11_areLike_82 (fun c_14 => ?_) (fun c_14 => ?_)
                · replace h := h.1 c_14
                  refine kk_iconst ic_0 e_X11_areLike_89 ?_
                  exact kk_sub [0, 1, 2] rfl (hJ_12 (0 : Int32) h)
                · replace h := h.2 c_14
                  refine kk_iconst ic_1 e_X11_areLike_85 ?_
                  refine kk_goto e_X11_areLike_86 ?_
                  exact kk_sub [0, 1, 2] rfl (hJ_12 (1 : Int32) h)
            · intro J_10 hJ_10 h
              refine kk_icmp_ne e_X11_areLike_62 (fun c_15 => ?_) (fun c_15 => ?_)
              · replace h := h.1 c_15
                refine kk_iconst ic_0 e_X11_areLike_69 ?_
                exact kk_sub [0, 1, 2] rfl (hJ_10 (0 : Int32) h)
              · replace h := h.2 c_15
                refine kk_iconst ic_1 e_X11_areLike_65 ?_
                refine kk_goto e_X11_areLike_66 ?_
                exact kk_sub [0, 1, 2] rfl (hJ_10 (1 : Int32) h)
        · replace h := h.2 c_17
          refine kk_iconst ic_0 e_X11_areLike_41 ?_
          exact kk_zret e_X11_areLike_42 (Or.inl rfl) ⟨rfl, h⟩
      · intro J_6 hJ_6 h
        refine kk_if_ge e_X11_areLike_30 (fun c_18 => ?_) (fun c_18 => ?_)
        · replace h := h.1 c_18
          refine kk_iconst ic_0 e_X11_areLike_37 ?_
          exact kk_sub [0, 1] rfl (hJ_6 (0 : Int32) h)
        · replace h := h.2 c_18
          refine kk_iconst ic_1 e_X11_areLike_33 ?_
          refine kk_goto e_X11_areLike_34 ?_
          exact kk_sub [0, 1] rfl (hJ_6 (1 : Int32) h)
    · intro J_4 hJ_4 h
      refine kk_if_ge e_X11_areLike_16 (fun c_19 => ?_) (fun c_19 => ?_)
      · replace h := h.1 c_19
        refine kk_iconst ic_0 e_X11_areLike_23 ?_
        exact kk_sub [0, 1] rfl (hJ_4 (0 : Int32) h)
      · replace h := h.2 c_19
        refine kk_iconst ic_1 e_X11_areLike_19 ?_
        refine kk_goto e_X11_areLike_20 ?_
        exact kk_sub [0, 1] rfl (hJ_4 (1 : Int32) h)
theorem e_X11_unlikeMany_0 : kk_d cX11_unlikeMany 0 (.iconst 0) 1 1 := ⟨by decide +kernel, rfl⟩
theorem e_X11_unlikeMany_1 : kk_d cX11_unlikeMany 1 (.istore_n 1) 1 2 := ⟨by decide +kernel, rfl⟩
theorem e_X11_unlikeMany_2 : kk_d cX11_unlikeMany 2 (.iconst 0) 1 3 := ⟨by decide +kernel, rfl⟩
theorem e_X11_unlikeMany_3 : kk_d cX11_unlikeMany 3 (.istore_n 2) 1 4 := ⟨by decide +kernel, rfl⟩
theorem e_X11_unlikeMany_4 : kk_d cX11_unlikeMany 4 (.iload_n 2) 1 5 := ⟨by decide +kernel, rfl⟩
theorem e_X11_unlikeMany_5 : kk_d cX11_unlikeMany 5 (.aload_n 0) 1 6 := ⟨by decide +kernel, rfl⟩
theorem e_X11_unlikeMany_6 : kk_d cX11_unlikeMany 6 (.getfield 96) 3 9 := ⟨by decide +kernel, rfl⟩
theorem e_X11_unlikeMany_9 : kk_dj cX11_unlikeMany 9 (.if_icmp .ge 27) 3 (27) 12 36 := ⟨by decide +kernel, rfl, by decide⟩
theorem e_X11_unlikeMany_36 : kk_d cX11_unlikeMany 36 (.iload_n 1) 1 37 := ⟨by decide +kernel, rfl⟩
theorem e_X11_unlikeMany_37 : kk_d cX11_unlikeMany 37 .ireturn 1 38 := ⟨by decide +kernel, rfl⟩
theorem e_X11_unlikeMany_12 : kk_d cX11_unlikeMany 12 (.aload_n 0) 1 13 := ⟨by decide +kernel, rfl⟩
theorem e_X11_unlikeMany_13 : kk_d cX11_unlikeMany 13 (.getfield 37) 3 16 := ⟨by decide +kernel, rfl⟩
theorem e_X11_unlikeMany_16 : kk_d cX11_unlikeMany 16 (.iload_n 2) 1 17 := ⟨by decide +kernel, rfl⟩
theorem e_X11_unlikeMany_17 : kk_d cX11_unlikeMany 17 .iaload 1 18 := ⟨by decide +kernel, rfl⟩
theorem e_X11_unlikeMany_18 : kk_d cX11_unlikeMany 18 (.aload_n 0) 1 19 := ⟨by decide +kernel, rfl⟩
theorem e_X11_unlikeMany_19 : kk_d cX11_unlikeMany 19 (.getfield 31) 3 22 := ⟨by decide +kernel, rfl⟩
theorem e_X11_unlikeMany_22 : kk_d cX11_unlikeMany 22 (.iload_n 2) 1 23 := ⟨by decide +kernel, rfl⟩
theorem e_X11_unlikeMany_23 : kk_d cX11_unlikeMany 23 .iaload 1 24 := ⟨by decide +kernel, rfl⟩
theorem e_X11_unlikeMany_24 : kk_dj cX11_unlikeMany 24 (.if_icmp .eq 6) 3 (6) 27 30 := ⟨by decide +kernel, rfl, by decide⟩
theorem e_X11_unlikeMany_30 : kk_d cX11_unlikeMany 30 (.iinc 2 1) 3 33 := ⟨by decide +kernel, rfl⟩
theorem e_X11_unlikeMany_33 : kk_dj cX11_unlikeMany 33 (.goto (-29)) 3 (-29) 36 4 := ⟨by decide +kernel, rfl, by decide⟩
theorem e_X11_unlikeMany_27 : kk_d cX11_unlikeMany 27 (.iinc 1 1) 3 30 := ⟨by decide +kernel, rfl⟩
set_option maxRecDepth 4000 in
theorem s_X11_unlikeMany (Z : kk_Z) (σ : kk_St) (Q : Int32 → Prop) (h : f_X11_unlikeMany σ Q) : kk_M Z sh_M yX11_unlikeMany cX11_unlikeMany 3 (some .int) (kk_R 2) [.ref (Z.2.1 0)] σ (kk_Qi Z sh_M (fun r σ' => σ' = σ ∧ Q r)) := by
  unfold f_X11_unlikeMany at h
  refine kk_met (own := RX11) (by decide) rfl (Nat.le_of_ble_eq_true rfl) rfl ?_
  refine kk_iconst ic_0 e_X11_unlikeMany_0 ?_
  refine kk_istore_n (lv' := [(1, .int (0 : Int32)), (0, .ref (Z.2.1 0))]) e_X11_unlikeMany_1 rfl (by decide) rfl ?_
  refine kk_iconst ic_0 e_X11_unlikeMany_2 ?_
  refine kk_istore_n (lv' := [(2, .int (0 : Int32)), (1, .int (0 : Int32)), (0, .ref (Z.2.1 0))]) e_X11_unlikeMany_3 rfl (by decide) rfl ?_
  refine kk_sub [2, 1, 0] rfl ?_
  refine kk_lpW2 (P := fun (v1_1 : Int32) (v2_2 : Int32) => KK Z sh_M RX11 cX11_unlikeMany 3 (some .int) (kk_R 2) (kk_Qi Z sh_M (fun r σ' => σ' = σ ∧ Q r)) 4 [(0, .ref (Z.2.1 0)), (1, .int v1_1), (2, .int v2_2)] [] σ) ?_ h
  intro rec_3 hrec_3 v1_1 v2_2 h
  refine kk_iload_n 2 rfl e_X11_unlikeMany_4 ?_
  refine kk_aload_n 0 rfl e_X11_unlikeMany_5 ?_
  refine kk_geti e_X11_unlikeMany_6 fl_X11_96 rfl rfl ?_
  refine kk_icmp_ge e_X11_unlikeMany_9 (fun c_7 => ?_) (fun c_7 => ?_)
  · replace h := h.1 c_7
    refine kk_iload_n 1 rfl e_X11_unlikeMany_36 ?_
    exact kk_iret e_X11_unlikeMany_37 ⟨rfl, h⟩
  · replace h := h.2 c_7
    refine kk_aload_n 0 rfl e_X11_unlikeMany_12 ?_
    refine kk_getr e_X11_unlikeMany_13 fl_X11_37 rfl rfl ?_
    refine kk_iload_n 2 rfl e_X11_unlikeMany_16 ?_
    refine kk_iald e_X11_unlikeMany_17 rfl h.1 ?_
    replace h := h.2
    refine kk_aload_n 0 rfl e_X11_unlikeMany_18 ?_
    refine kk_getr e_X11_unlikeMany_19 fl_X11_31 rfl rfl ?_
    refine kk_iload_n 2 rfl e_X11_unlikeMany_22 ?_
    refine kk_iald e_X11_unlikeMany_23 rfl h.1 ?_
    replace h := h.2
    refine kk_jW1 (P := fun (v1_4 : Int32) => KK Z sh_M RX11 cX11_unlikeMany 3 (some .int) (kk_R 2) (kk_Qi Z sh_M (fun r σ' => σ' = σ ∧ Q r)) 30 [(0, .ref (Z.2.1 0)), (1, .int v1_4), (2, .int v2_2)] [] σ) h ?_ ?_
    · intro v1_4 h
      refine kk_iinc (lv' := [(2, .int (v2_2 + (1 : Int32))), (0, .ref (Z.2.1 0)), (1, .int v1_4)]) e_X11_unlikeMany_30 (j := 2) rfl (ii_1 v2_2) (by decide) rfl ?_
      refine kk_goto e_X11_unlikeMany_33 ?_
      exact kk_sub [1, 2, 0] rfl (hrec_3 v1_4 (v2_2 + (1 : Int32)) h)
    · intro J_5 hJ_5 h
      refine kk_icmp_eq e_X11_unlikeMany_24 (fun c_6 => ?_) (fun c_6 => ?_)
      · replace h := h.1 c_6
        exact kk_sub [0, 1, 2] rfl (hJ_5 v1_1 h)
      · replace h := h.2 c_6
        refine kk_iinc (lv' := [(1, .int (v1_1 + (1 : Int32))), (0, .ref (Z.2.1 0)), (2, .int v2_2)]) e_X11_unlikeMany_27 (j := 1) rfl (ii_1 v1_1) (by decide) rfl ?_
        exact kk_sub [1, 0, 2] rfl (hJ_5 (v1_1 + (1 : Int32)) h)
theorem e_X11_back_0 : kk_d cX11_back 0 (.aload_n 0) 1 1 := ⟨by decide +kernel, rfl⟩
theorem e_X11_back_1 : kk_d cX11_back 1 (.getfield 99) 3 4 := ⟨by decide +kernel, rfl⟩
theorem e_X11_back_4 : kk_dj cX11_back 4 (.ifCond .ne 5) 3 (5) 7 9 := ⟨by decide +kernel, rfl, by decide⟩
theorem e_X11_back_9 : kk_d cX11_back 9 (.aload_n 0) 1 10 := ⟨by decide +kernel, rfl⟩
theorem e_X11_back_10 : kk_d cX11_back 10 (.invokevirtual 314) 3 13 := ⟨by decide +kernel, rfl⟩
theorem e_X11_back_13 : kk_d cX11_back 13 (.istore_n 1) 1 14 := ⟨by decide +kernel, rfl⟩
theorem e_X11_back_14 : kk_d cX11_back 14 (.iconst 0) 1 15 := ⟨by decide +kernel, rfl⟩
theorem e_X11_back_15 : kk_d cX11_back 15 (.istore_n 2) 1 16 := ⟨by decide +kernel, rfl⟩
theorem e_X11_back_16 : kk_d cX11_back 16 (.iload_n 2) 1 17 := ⟨by decide +kernel, rfl⟩
theorem e_X11_back_17 : kk_d cX11_back 17 (.aload_n 0) 1 18 := ⟨by decide +kernel, rfl⟩
theorem e_X11_back_18 : kk_d cX11_back 18 (.getfield 96) 3 21 := ⟨by decide +kernel, rfl⟩
theorem e_X11_back_21 : kk_dj cX11_back 21 (.if_icmp .ge 21) 3 (21) 24 42 := ⟨by decide +kernel, rfl, by decide⟩
theorem e_X11_back_42 : kk_d cX11_back 42 (.iload_n 1) 1 43 := ⟨by decide +kernel, rfl⟩
theorem e_X11_back_43 : kk_d cX11_back 43 .ireturn 1 44 := ⟨by decide +kernel, rfl⟩
theorem e_X11_back_24 : kk_d cX11_back 24 (.aload_n 0) 1 25 := ⟨by decide +kernel, rfl⟩
theorem e_X11_back_25 : kk_d cX11_back 25 (.getfield 31) 3 28 := ⟨by decide +kernel, rfl⟩
theorem e_X11_back_28 : kk_d cX11_back 28 (.iload_n 2) 1 29 := ⟨by decide +kernel, rfl⟩
theorem e_X11_back_29 : kk_d cX11_back 29 (.aload_n 0) 1 30 := ⟨by decide +kernel, rfl⟩
theorem e_X11_back_30 : kk_d cX11_back 30 (.getfield 37) 3 33 := ⟨by decide +kernel, rfl⟩
theorem e_X11_back_33 : kk_d cX11_back 33 (.iload_n 2) 1 34 := ⟨by decide +kernel, rfl⟩
theorem e_X11_back_34 : kk_d cX11_back 34 .iaload 1 35 := ⟨by decide +kernel, rfl⟩
theorem e_X11_back_35 : kk_d cX11_back 35 .iastore 1 36 := ⟨by decide +kernel, rfl⟩
theorem e_X11_back_36 : kk_d cX11_back 36 (.iinc 2 1) 3 39 := ⟨by decide +kernel, rfl⟩
theorem e_X11_back_39 : kk_dj cX11_back 39 (.goto (-23)) 3 (-23) 42 16 := ⟨by decide +kernel, rfl, by decide⟩
theorem e_X11_back_7 : kk_d cX11_back 7 (.iconst (-1)) 1 8 := ⟨by decide +kernel, rfl⟩
theorem e_X11_back_8 : kk_d cX11_back 8 .ireturn 1 9 := ⟨by decide +kernel, rfl⟩
set_option maxRecDepth 4000 in
theorem s_X11_back (Z : kk_Z) (σ : kk_St) (Q : Int32 → kk_St → Prop) (h : f_X11_back σ Q) : kk_M Z sh_M yX11_back cX11_back 3 (some .int) (kk_R 3) [.ref (Z.2.1 0)] σ (kk_Qi Z sh_M Q) := by
  unfold f_X11_back at h
  refine kk_met (own := RX11) (by decide) rfl (Nat.le_of_ble_eq_true rfl) rfl ?_
  refine kk_aload_n 0 rfl e_X11_back_0 ?_
  refine kk_geti e_X11_back_1 fl_X11_99 rfl rfl ?_
  refine kk_if_ne e_X11_back_4 (fun c_7 => ?_) (fun c_7 => ?_)
  · replace h := h.1 c_7
    refine kk_aload_n 0 rfl e_X11_back_9 ?_
    refine kk_callVip (As := []) (rest := []) e_X11_back_10 ml_X11_314 ⟨_, _, _, _, rfl, rfl⟩ rfl (kk_fitR (by decide) (by decide)) (Nat.le_of_ble_eq_true rfl) rfl (s_X11_unlikeMany Z σ _ h) (fun r_1 h => ?_)
    refine kk_istore_n (lv' := [(1, .int r_1), (0, .ref (Z.2.1 0))]) e_X11_back_13 rfl (by decide) rfl ?_
    refine kk_iconst ic_0 e_X11_back_14 ?_
    refine kk_istore_n (lv' := [(2, .int (0 : Int32)), (1, .int r_1), (0, .ref (Z.2.1 0))]) e_X11_back_15 rfl (by decide) rfl ?_
    refine kk_sub [2, 1, 0] rfl ?_
    refine kk_lpW2 (P := fun (v2_2 : Int32) (σ_3 : kk_St) => KK Z sh_M RX11 cX11_back 3 (some .int) (kk_R 3) (kk_Qi Z sh_M Q) 16 [(0, .ref (Z.2.1 0)), (1, .int r_1), (2, .int v2_2)] [] σ_3) ?_ h
    intro rec_4 hrec_4 v2_2 σ_3 h
    refine kk_iload_n 2 rfl e_X11_back_16 ?_
    refine kk_aload_n 0 rfl e_X11_back_17 ?_
    refine kk_geti e_X11_back_18 fl_X11_96 rfl rfl ?_
    refine kk_icmp_ge e_X11_back_21 (fun c_6 => ?_) (fun c_6 => ?_)
    · replace h := h.1 c_6
      refine kk_iload_n 1 rfl e_X11_back_42 ?_
      exact kk_iret e_X11_back_43 h
    · replace h := h.2 c_6
      refine kk_aload_n 0 rfl e_X11_back_24 ?_
      refine kk_getr e_X11_back_25 fl_X11_31 rfl rfl ?_
      refine kk_iload_n 2 rfl e_X11_back_28 ?_
      refine kk_aload_n 0 rfl e_X11_back_29 ?_
      refine kk_getr e_X11_back_30 fl_X11_37 rfl rfl ?_
      refine kk_iload_n 2 rfl e_X11_back_33 ?_
      refine kk_iald e_X11_back_34 rfl h.1 ?_
      replace h := h.2
      refine kk_iast e_X11_back_35 rfl h.1 ?_
      replace h := h.2
      refine kk_tops (fun σ_5 eσ_5 => ?_)
      replace h := h σ_5 eσ_5
      refine kk_iinc (lv' := [(2, .int (v2_2 + (1 : Int32))), (0, .ref (Z.2.1 0)), (1, .int r_1)]) e_X11_back_36 (j := 2) rfl (ii_1 v2_2) (by decide) rfl ?_
      refine kk_goto e_X11_back_39 ?_
      exact kk_sub [1, 2, 0] rfl (hrec_4 (v2_2 + (1 : Int32)) σ_5 h)
  · replace h := h.2 c_7
    refine kk_iconst ic_m1 e_X11_back_7 ?_
    exact kk_iret e_X11_back_8 h
theorem e_X11_isLine_0 : kk_d cX11_isLine 0 (.iload_n 1) 1 1 := ⟨by decide +kernel, rfl⟩
theorem e_X11_isLine_1 : kk_d cX11_isLine 1 (.iconst 0) 1 2 := ⟨by decide +kernel, rfl⟩
theorem e_X11_isLine_2 : kk_d cX11_isLine 2 (.aload_n 0) 1 3 := ⟨by decide +kernel, rfl⟩
theorem e_X11_isLine_3 : kk_d cX11_isLine 3 (.getfield 96) 3 6 := ⟨by decide +kernel, rfl⟩
theorem e_X11_isLine_6 : kk_d cX11_isLine 6 (.iconst 1) 1 7 := ⟨by decide +kernel, rfl⟩
theorem e_X11_isLine_7 : kk_d cX11_isLine 7 .isub 1 8 := ⟨by decide +kernel, rfl⟩
theorem e_X11_isLine_8 : kk_d cX11_isLine 8 (.invokestatic 92) 3 11 := ⟨by decide +kernel, rfl⟩
theorem e_X11_isLine_11 : kk_d cX11_isLine 11 .ireturn 1 12 := ⟨by decide +kernel, rfl⟩
set_option maxRecDepth 4000 in
theorem s_X11_isLine (Z : kk_Z) (v1 : Int32) (σ : kk_St) (Q : Int32 → Prop) (h : f_X11_isLine v1 σ Q) : kk_M Z sh_M yX11_isLine cX11_isLine 2 (some .boolean) (kk_R 3) [.ref (Z.2.1 0), .int v1] σ (kk_Qi Z sh_M (fun r σ' => σ' = σ ∧ Q r)) := by
  unfold f_X11_isLine at h
  refine kk_met (own := RX11) (by decide) rfl (Nat.le_of_ble_eq_true rfl) rfl ?_
  refine kk_iload_n 1 rfl e_X11_isLine_0 ?_
  refine kk_iconst ic_0 e_X11_isLine_1 ?_
  refine kk_aload_n 0 rfl e_X11_isLine_2 ?_
  refine kk_geti e_X11_isLine_3 fl_X11_96 rfl rfl ?_
  refine kk_iconst ic_1 e_X11_isLine_6 ?_
  refine kk_isub e_X11_isLine_7 ?_
  refine kk_callSip (As := [.int v1, .int (0 : Int32), .int ((σ.1 0 2) - (1 : Int32))]) (rest := []) e_X11_isLine_8 ml_X11_92 rfl (kk_fitR (by decide) (by decide)) (Nat.le_of_ble_eq_true rfl) rfl (s_X11_in Z v1 (0 : Int32) ((σ.1 0 2) - (1 : Int32)) σ _ h) (fun r_1 h => ?_)
  exact kk_zret e_X11_isLine_11 h.1 ⟨rfl, h.2⟩
theorem e_X11_bare_0 : kk_d cX11_bare 0 (.aload_n 0) 1 1 := ⟨by decide +kernel, rfl⟩
theorem e_X11_bare_1 : kk_d cX11_bare 1 (.iload_n 1) 1 2 := ⟨by decide +kernel, rfl⟩
theorem e_X11_bare_2 : kk_d cX11_bare 2 (.invokevirtual 143) 3 5 := ⟨by decide +kernel, rfl⟩
theorem e_X11_bare_5 : kk_dj cX11_bare 5 (.ifCond .ne 5) 3 (5) 8 10 := ⟨by decide +kernel, rfl, by decide⟩
theorem e_X11_bare_10 : kk_d cX11_bare 10 (.aload_n 0) 1 11 := ⟨by decide +kernel, rfl⟩
theorem e_X11_bare_11 : kk_d cX11_bare 11 (.getfield 31) 3 14 := ⟨by decide +kernel, rfl⟩
theorem e_X11_bare_14 : kk_d cX11_bare 14 (.iload_n 1) 1 15 := ⟨by decide +kernel, rfl⟩
theorem e_X11_bare_15 : kk_d cX11_bare 15 .iaload 1 16 := ⟨by decide +kernel, rfl⟩
theorem e_X11_bare_16 : kk_d cX11_bare 16 (.istore_n 2) 1 17 := ⟨by decide +kernel, rfl⟩
theorem e_X11_bare_17 : kk_d cX11_bare 17 (.aload_n 0) 1 18 := ⟨by decide +kernel, rfl⟩
theorem e_X11_bare_18 : kk_d cX11_bare 18 (.getfield 31) 3 21 := ⟨by decide +kernel, rfl⟩
theorem e_X11_bare_21 : kk_d cX11_bare 21 (.iload_n 1) 1 22 := ⟨by decide +kernel, rfl⟩
theorem e_X11_bare_22 : kk_d cX11_bare 22 (.iconst (-1)) 1 23 := ⟨by decide +kernel, rfl⟩
theorem e_X11_bare_23 : kk_d cX11_bare 23 .iastore 1 24 := ⟨by decide +kernel, rfl⟩
theorem e_X11_bare_24 : kk_d cX11_bare 24 (.iload_n 2) 1 25 := ⟨by decide +kernel, rfl⟩
theorem e_X11_bare_25 : kk_d cX11_bare 25 .ireturn 1 26 := ⟨by decide +kernel, rfl⟩
theorem e_X11_bare_8 : kk_d cX11_bare 8 (.iconst (-1)) 1 9 := ⟨by decide +kernel, rfl⟩
theorem e_X11_bare_9 : kk_d cX11_bare 9 .ireturn 1 10 := ⟨by decide +kernel, rfl⟩
set_option maxRecDepth 4000 in
theorem s_X11_bare (Z : kk_Z) (v1 : Int32) (σ : kk_St) (Q : Int32 → kk_St → Prop) (h : f_X11_bare v1 σ Q) : kk_M Z sh_M yX11_bare cX11_bare 3 (some .int) (kk_R 4) [.ref (Z.2.1 0), .int v1] σ (kk_Qi Z sh_M Q) := by
  unfold f_X11_bare at h
  refine kk_met (own := RX11) (by decide) rfl (Nat.le_of_ble_eq_true rfl) rfl ?_
  refine kk_aload_n 0 rfl e_X11_bare_0 ?_
  refine kk_iload_n 1 rfl e_X11_bare_1 ?_
  refine kk_callVip (As := [.int v1]) (rest := []) e_X11_bare_2 ml_X11_143 ⟨_, _, _, _, rfl, rfl⟩ rfl (kk_fitR (by decide) (by decide)) (Nat.le_of_ble_eq_true rfl) rfl (s_X11_isLine Z v1 σ _ h) (fun r_1 h => ?_)
  refine kk_if_ne e_X11_bare_5 (fun c_3 => ?_) (fun c_3 => ?_)
  · replace h := h.1 c_3
    refine kk_aload_n 0 rfl e_X11_bare_10 ?_
    refine kk_getr e_X11_bare_11 fl_X11_31 rfl rfl ?_
    refine kk_iload_n 1 rfl e_X11_bare_14 ?_
    refine kk_iald e_X11_bare_15 rfl h.1 ?_
    replace h := h.2
    refine kk_istore_n (lv' := [(2, .int (kk_rd σ 3 v1)), (0, .ref (Z.2.1 0)), (1, .int v1)]) e_X11_bare_16 rfl (by decide) rfl ?_
    refine kk_aload_n 1 rfl e_X11_bare_17 ?_
    refine kk_getr e_X11_bare_18 fl_X11_31 rfl rfl ?_
    refine kk_iload_n 2 rfl e_X11_bare_21 ?_
    refine kk_iconst ic_m1 e_X11_bare_22 ?_
    refine kk_iast e_X11_bare_23 rfl h.1 ?_
    replace h := h.2
    refine kk_tops (fun σ_2 eσ_2 => ?_)
    replace h := h σ_2 eσ_2
    refine kk_iload_n 0 rfl e_X11_bare_24 ?_
    exact kk_iret e_X11_bare_25 h
  · replace h := h.2 c_3
    refine kk_iconst ic_m1 e_X11_bare_8 ?_
    exact kk_iret e_X11_bare_9 h
theorem e_X11_manyWith_0 : kk_d cX11_manyWith 0 (.iconst 0) 1 1 := ⟨by decide +kernel, rfl⟩
theorem e_X11_manyWith_1 : kk_d cX11_manyWith 1 (.istore_n 3) 1 2 := ⟨by decide +kernel, rfl⟩
theorem e_X11_manyWith_2 : kk_d cX11_manyWith 2 (.iconst 0) 1 3 := ⟨by decide +kernel, rfl⟩
theorem e_X11_manyWith_3 : kk_d cX11_manyWith 3 (.istore 4) 2 5 := ⟨by decide +kernel, rfl⟩
theorem e_X11_manyWith_5 : kk_d cX11_manyWith 5 (.iload 4) 2 7 := ⟨by decide +kernel, rfl⟩
theorem e_X11_manyWith_7 : kk_d cX11_manyWith 7 (.aload_n 0) 1 8 := ⟨by decide +kernel, rfl⟩
theorem e_X11_manyWith_8 : kk_d cX11_manyWith 8 (.getfield 96) 3 11 := ⟨by decide +kernel, rfl⟩
theorem e_X11_manyWith_11 : kk_dj cX11_manyWith 11 (.if_icmp .ge 32) 3 (32) 14 43 := ⟨by decide +kernel, rfl, by decide⟩
theorem e_X11_manyWith_43 : kk_d cX11_manyWith 43 (.iload_n 3) 1 44 := ⟨by decide +kernel, rfl⟩
theorem e_X11_manyWith_44 : kk_d cX11_manyWith 44 .ireturn 1 45 := ⟨by decide +kernel, rfl⟩
theorem e_X11_manyWith_14 : kk_d cX11_manyWith 14 (.iload_n 1) 1 15 := ⟨by decide +kernel, rfl⟩
theorem e_X11_manyWith_15 : kk_d cX11_manyWith 15 (.iload 4) 2 17 := ⟨by decide +kernel, rfl⟩
theorem e_X11_manyWith_17 : kk_d cX11_manyWith 17 (.invokestatic 11) 3 20 := ⟨by decide +kernel, rfl⟩
theorem e_X11_manyWith_20 : kk_dj cX11_manyWith 20 (.ifCond .eq 17) 3 (17) 23 37 := ⟨by decide +kernel, rfl, by decide⟩
theorem e_X11_manyWith_37 : kk_d cX11_manyWith 37 (.iinc 4 1) 3 40 := ⟨by decide +kernel, rfl⟩
theorem e_X11_manyWith_40 : kk_dj cX11_manyWith 40 (.goto (-35)) 3 (-35) 43 5 := ⟨by decide +kernel, rfl, by decide⟩
theorem e_X11_manyWith_23 : kk_d cX11_manyWith 23 (.aload_n 0) 1 24 := ⟨by decide +kernel, rfl⟩
theorem e_X11_manyWith_24 : kk_d cX11_manyWith 24 (.getfield 31) 3 27 := ⟨by decide +kernel, rfl⟩
theorem e_X11_manyWith_27 : kk_d cX11_manyWith 27 (.iload 4) 2 29 := ⟨by decide +kernel, rfl⟩
theorem e_X11_manyWith_29 : kk_d cX11_manyWith 29 .iaload 1 30 := ⟨by decide +kernel, rfl⟩
theorem e_X11_manyWith_30 : kk_d cX11_manyWith 30 (.iload_n 2) 1 31 := ⟨by decide +kernel, rfl⟩
theorem e_X11_manyWith_31 : kk_dj cX11_manyWith 31 (.if_icmp .ne 6) 3 (6) 34 37 := ⟨by decide +kernel, rfl, by decide⟩
theorem e_X11_manyWith_34 : kk_d cX11_manyWith 34 (.iinc 3 1) 3 37 := ⟨by decide +kernel, rfl⟩
set_option maxRecDepth 4000 in
theorem s_X11_manyWith (Z : kk_Z) (v1 : Int32) (v2 : Int32) (σ : kk_St) (Q : Int32 → Prop) (h : f_X11_manyWith v1 v2 σ Q) : kk_M Z sh_M yX11_manyWith cX11_manyWith 5 (some .int) (kk_R 3) [.ref (Z.2.1 0), .int v1, .int v2] σ (kk_Qi Z sh_M (fun r σ' => σ' = σ ∧ Q r)) := by
  unfold f_X11_manyWith at h
  refine kk_met (own := RX11) (by decide) rfl (Nat.le_of_ble_eq_true rfl) rfl ?_
  refine kk_iconst ic_0 e_X11_manyWith_0 ?_
  refine kk_istore_n (lv' := [(3, .int (0 : Int32)), (0, .ref (Z.2.1 0)), (1, .int v1), (2, .int v2)]) e_X11_manyWith_1 rfl (by decide) rfl ?_
  refine kk_iconst ic_0 e_X11_manyWith_2 ?_
  refine kk_istore (lv' := [(4, .int (0 : Int32)), (3, .int (0 : Int32)), (0, .ref (Z.2.1 0)), (1, .int v1), (2, .int v2)]) e_X11_manyWith_3 (by decide) rfl ?_
  refine kk_sub [2, 3, 4, 1, 0] rfl ?_
  refine kk_lpW2 (P := fun (v3_1 : Int32) (v4_2 : Int32) => KK Z sh_M RX11 cX11_manyWith 5 (some .int) (kk_R 3) (kk_Qi Z sh_M (fun r σ' => σ' = σ ∧ Q r)) 5 [(0, .ref (Z.2.1 0)), (1, .int v1), (2, .int v2), (3, .int v3_1), (4, .int v4_2)] [] σ) ?_ h
  intro rec_3 hrec_3 v3_1 v4_2 h
  refine kk_iload 4 rfl e_X11_manyWith_5 ?_
  refine kk_aload_n 0 rfl e_X11_manyWith_7 ?_
  refine kk_geti e_X11_manyWith_8 fl_X11_96 rfl rfl ?_
  refine kk_icmp_ge e_X11_manyWith_11 (fun c_9 => ?_) (fun c_9 => ?_)
  · replace h := h.1 c_9
    refine kk_iload_n 3 rfl e_X11_manyWith_43 ?_
    exact kk_iret e_X11_manyWith_44 ⟨rfl, h⟩
  · replace h := h.2 c_9
    refine kk_iload_n 1 rfl e_X11_manyWith_14 ?_
    refine kk_iload 4 rfl e_X11_manyWith_15 ?_
    refine kk_callSip (As := [.int v1, .int v4_2]) (rest := []) e_X11_manyWith_17 ml_X11_11 rfl (kk_fitR (by decide) (by decide)) (Nat.le_of_ble_eq_true rfl) rfl (s_X11_has Z v1 v4_2 σ _ h) (fun r_4 h => ?_)
    refine kk_jW1 (P := fun (v3_5 : Int32) => KK Z sh_M RX11 cX11_manyWith 5 (some .int) (kk_R 3) (kk_Qi Z sh_M (fun r σ' => σ' = σ ∧ Q r)) 37 [(0, .ref (Z.2.1 0)), (1, .int v1), (2, .int v2), (3, .int v3_5), (4, .int v4_2)] [] σ) h ?_ ?_
    · intro v3_5 h
      refine kk_iinc (lv' := [(4, .int (v4_2 + (1 : Int32))), (0, .ref (Z.2.1 0)), (1, .int v1), (2, .int v2), (3, .int v3_5)]) e_X11_manyWith_37 (j := 4) rfl (ii_1 v4_2) (by decide) rfl ?_
      refine kk_goto e_X11_manyWith_40 ?_
      exact kk_sub [1, 2, 3, 4, 0] rfl (hrec_3 v3_5 (v4_2 + (1 : Int32)) h)
    · intro J_6 hJ_6 h
      refine kk_if_eq e_X11_manyWith_20 (fun c_8 => ?_) (fun c_8 => ?_)
      · replace h := h.1 c_8
        exact kk_sub [0, 1, 2, 3, 4] rfl (hJ_6 v3_1 h)
      · replace h := h.2 c_8
        refine kk_aload_n 0 rfl e_X11_manyWith_23 ?_
        refine kk_getr e_X11_manyWith_24 fl_X11_31 rfl rfl ?_
        refine kk_iload 4 rfl e_X11_manyWith_27 ?_
        refine kk_iald e_X11_manyWith_29 rfl h.1 ?_
        replace h := h.2
        refine kk_iload_n 2 rfl e_X11_manyWith_30 ?_
        refine kk_icmp_ne e_X11_manyWith_31 (fun c_7 => ?_) (fun c_7 => ?_)
        · replace h := h.1 c_7
          exact kk_sub [0, 1, 2, 3, 4] rfl (hJ_6 v3_1 h)
        · replace h := h.2 c_7
          refine kk_iinc (lv' := [(3, .int (v3_1 + (1 : Int32))), (0, .ref (Z.2.1 0)), (1, .int v1), (2, .int v2), (4, .int v4_2)]) e_X11_manyWith_34 (j := 3) rfl (ii_1 v3_1) (by decide) rfl ?_
          exact kk_sub [1, 2, 3, 0, 4] rfl (hJ_6 (v3_1 + (1 : Int32)) h)
theorem e_X11_bareMany_0 : kk_d cX11_bareMany 0 (.aload_n 0) 1 1 := ⟨by decide +kernel, rfl⟩
theorem e_X11_bareMany_1 : kk_d cX11_bareMany 1 (.aload_n 0) 1 2 := ⟨by decide +kernel, rfl⟩
theorem e_X11_bareMany_2 : kk_d cX11_bareMany 2 (.invokevirtual 120) 3 5 := ⟨by decide +kernel, rfl⟩
theorem e_X11_bareMany_5 : kk_d cX11_bareMany 5 (.iconst (-1)) 1 6 := ⟨by decide +kernel, rfl⟩
theorem e_X11_bareMany_6 : kk_d cX11_bareMany 6 (.invokevirtual 163) 3 9 := ⟨by decide +kernel, rfl⟩
theorem e_X11_bareMany_9 : kk_d cX11_bareMany 9 .ireturn 1 10 := ⟨by decide +kernel, rfl⟩
set_option maxRecDepth 4000 in
theorem s_X11_bareMany (Z : kk_Z) (σ : kk_St) (Q : Int32 → Prop) (h : f_X11_bareMany σ Q) : kk_M Z sh_M yX11_bareMany cX11_bareMany 1 (some .int) (kk_R 4) [.ref (Z.2.1 0)] σ (kk_Qi Z sh_M (fun r σ' => σ' = σ ∧ Q r)) := by
  unfold f_X11_bareMany at h
  refine kk_met (own := RX11) (by decide) rfl (Nat.le_of_ble_eq_true rfl) rfl ?_
  refine kk_aload_n 0 rfl e_X11_bareMany_0 ?_
  refine kk_aload_n 0 rfl e_X11_bareMany_1 ?_
  refine kk_callVip (As := []) (rest := [.ref (Z.2.1 0)]) e_X11_bareMany_2 ml_X11_120 ⟨_, _, _, _, rfl, rfl⟩ rfl (kk_fitR (by decide) (by decide)) (Nat.le_of_ble_eq_true rfl) rfl (s_X11_allLines Z σ _ h) (fun r_1 h => ?_)
  refine kk_iconst ic_m1 e_X11_bareMany_5 ?_
  refine kk_callVip (As := [.int r_1, .int (-1 : Int32)]) (rest := []) e_X11_bareMany_6 ml_X11_163 ⟨_, _, _, _, rfl, rfl⟩ rfl (kk_fitR (by decide) (by decide)) (Nat.le_of_ble_eq_true rfl) rfl (s_X11_manyWith Z r_1 (-1 : Int32) σ _ h) (fun r_2 h => ?_)
  exact kk_iret e_X11_bareMany_9 ⟨rfl, h⟩
theorem e_X11_begin_0 : kk_d cX11_begin 0 (.iload_n 1) 1 1 := ⟨by decide +kernel, rfl⟩
theorem e_X11_begin_1 : kk_d cX11_begin 1 (.iconst 1) 1 2 := ⟨by decide +kernel, rfl⟩
theorem e_X11_begin_2 : kk_d cX11_begin 2 (.bipush 9) 2 4 := ⟨by decide +kernel, rfl⟩
theorem e_X11_begin_4 : kk_d cX11_begin 4 (.invokestatic 92) 3 7 := ⟨by decide +kernel, rfl⟩
theorem e_X11_begin_7 : kk_dj cX11_begin 7 (.ifCond .ne 5) 3 (5) 10 12 := ⟨by decide +kernel, rfl, by decide⟩
theorem e_X11_begin_12 : kk_d cX11_begin 12 (.aload_n 0) 1 13 := ⟨by decide +kernel, rfl⟩
theorem e_X11_begin_13 : kk_d cX11_begin 13 (.iload_n 1) 1 14 := ⟨by decide +kernel, rfl⟩
theorem e_X11_begin_14 : kk_d cX11_begin 14 (.putfield 21) 3 17 := ⟨by decide +kernel, rfl⟩
theorem e_X11_begin_17 : kk_d cX11_begin 17 (.aload_n 0) 1 18 := ⟨by decide +kernel, rfl⟩
theorem e_X11_begin_18 : kk_d cX11_begin 18 (.iconst 0) 1 19 := ⟨by decide +kernel, rfl⟩
theorem e_X11_begin_19 : kk_d cX11_begin 19 (.putfield 96) 3 22 := ⟨by decide +kernel, rfl⟩
theorem e_X11_begin_22 : kk_d cX11_begin 22 (.aload_n 0) 1 23 := ⟨by decide +kernel, rfl⟩
theorem e_X11_begin_23 : kk_d cX11_begin 23 (.iconst 0) 1 24 := ⟨by decide +kernel, rfl⟩
theorem e_X11_begin_24 : kk_d cX11_begin 24 (.putfield 99) 3 27 := ⟨by decide +kernel, rfl⟩
theorem e_X11_begin_27 : kk_d cX11_begin 27 (.aload_n 0) 1 28 := ⟨by decide +kernel, rfl⟩
theorem e_X11_begin_28 : kk_d cX11_begin 28 (.iconst 0) 1 29 := ⟨by decide +kernel, rfl⟩
theorem e_X11_begin_29 : kk_d cX11_begin 29 (.putfield 103) 3 32 := ⟨by decide +kernel, rfl⟩
theorem e_X11_begin_32 : kk_d cX11_begin 32 (.iconst 1) 1 33 := ⟨by decide +kernel, rfl⟩
theorem e_X11_begin_33 : kk_d cX11_begin 33 .ireturn 1 34 := ⟨by decide +kernel, rfl⟩
theorem e_X11_begin_10 : kk_d cX11_begin 10 (.iconst 0) 1 11 := ⟨by decide +kernel, rfl⟩
theorem e_X11_begin_11 : kk_d cX11_begin 11 .ireturn 1 12 := ⟨by decide +kernel, rfl⟩
set_option maxRecDepth 4000 in
theorem s_X11_begin (Z : kk_Z) (v1 : Int32) (σ : kk_St) (Q : Int32 → kk_St → Prop) (h : f_X11_begin v1 σ Q) : kk_M Z sh_M yX11_begin cX11_begin 2 (some .boolean) (kk_R 3) [.ref (Z.2.1 0), .int v1] σ (kk_Qi Z sh_M Q) := by
  unfold f_X11_begin at h
  refine kk_met (own := RX11) (by decide) rfl (Nat.le_of_ble_eq_true rfl) rfl ?_
  refine kk_iload_n 1 rfl e_X11_begin_0 ?_
  refine kk_iconst ic_1 e_X11_begin_1 ?_
  refine kk_bipush bp_9 e_X11_begin_2 ?_
  refine kk_callSip (As := [.int v1, .int (1 : Int32), .int (9 : Int32)]) (rest := []) e_X11_begin_4 ml_X11_92 rfl (kk_fitR (by decide) (by decide)) (Nat.le_of_ble_eq_true rfl) rfl (s_X11_in Z v1 (1 : Int32) (9 : Int32) σ _ h) (fun r_1 h => ?_)
  refine kk_if_ne e_X11_begin_7 (fun c_6 => ?_) (fun c_6 => ?_)
  · replace h := h.1 c_6
    refine kk_aload_n 0 rfl e_X11_begin_12 ?_
    refine kk_iload_n 1 rfl e_X11_begin_13 ?_
    refine kk_puti e_X11_begin_14 fl_X11_21 fn_X11_1 rfl rfl ?_
    refine kk_tops (fun σ_2 eσ_2 => ?_)
    replace h := h σ_2 eσ_2
    refine kk_aload_n 0 rfl e_X11_begin_17 ?_
    refine kk_iconst ic_0 e_X11_begin_18 ?_
    refine kk_puti e_X11_begin_19 fl_X11_96 fn_X11_2 rfl rfl ?_
    refine kk_tops (fun σ_3 eσ_3 => ?_)
    replace h := h σ_3 eσ_3
    refine kk_aload_n 0 rfl e_X11_begin_22 ?_
    refine kk_iconst ic_0 e_X11_begin_23 ?_
    refine kk_putz e_X11_begin_24 fl_X11_99 fn_X11_8 (Or.inl rfl) rfl rfl ?_
    refine kk_tops (fun σ_4 eσ_4 => ?_)
    replace h := h σ_4 eσ_4
    refine kk_aload_n 0 rfl e_X11_begin_27 ?_
    refine kk_iconst ic_0 e_X11_begin_28 ?_
    refine kk_putz e_X11_begin_29 fl_X11_103 fn_X11_12 (Or.inl rfl) rfl rfl ?_
    refine kk_tops (fun σ_5 eσ_5 => ?_)
    replace h := h σ_5 eσ_5
    refine kk_iconst ic_1 e_X11_begin_32 ?_
    exact kk_zret e_X11_begin_33 (Or.inr rfl) h
  · replace h := h.2 c_6
    refine kk_iconst ic_0 e_X11_begin_10 ?_
    exact kk_zret e_X11_begin_11 (Or.inl rfl) h
theorem e_X11_bitsOf_0 : kk_d cX11_bitsOf 0 (.iload_n 0) 1 1 := ⟨by decide +kernel, rfl⟩
theorem e_X11_bitsOf_1 : kk_d cX11_bitsOf 1 (.iload_n 0) 1 2 := ⟨by decide +kernel, rfl⟩
theorem e_X11_bitsOf_2 : kk_d cX11_bitsOf 2 (.iconst 1) 1 3 := ⟨by decide +kernel, rfl⟩
theorem e_X11_bitsOf_3 : kk_d cX11_bitsOf 3 .ishr 1 4 := ⟨by decide +kernel, rfl⟩
theorem e_X11_bitsOf_4 : kk_d cX11_bitsOf 4 (.ldc 7) 2 6 := ⟨by decide +kernel, rfl⟩
theorem e_X11_bitsOf_6 : kk_d cX11_bitsOf 6 .iand 1 7 := ⟨by decide +kernel, rfl⟩
theorem e_X11_bitsOf_7 : kk_d cX11_bitsOf 7 .isub 1 8 := ⟨by decide +kernel, rfl⟩
theorem e_X11_bitsOf_8 : kk_d cX11_bitsOf 8 (.istore_n 1) 1 9 := ⟨by decide +kernel, rfl⟩
theorem e_X11_bitsOf_9 : kk_d cX11_bitsOf 9 (.iload_n 1) 1 10 := ⟨by decide +kernel, rfl⟩
theorem e_X11_bitsOf_10 : kk_d cX11_bitsOf 10 (.ldc 8) 2 12 := ⟨by decide +kernel, rfl⟩
theorem e_X11_bitsOf_12 : kk_d cX11_bitsOf 12 .iand 1 13 := ⟨by decide +kernel, rfl⟩
theorem e_X11_bitsOf_13 : kk_d cX11_bitsOf 13 (.iload_n 1) 1 14 := ⟨by decide +kernel, rfl⟩
theorem e_X11_bitsOf_14 : kk_d cX11_bitsOf 14 (.iconst 2) 1 15 := ⟨by decide +kernel, rfl⟩
theorem e_X11_bitsOf_15 : kk_d cX11_bitsOf 15 .ishr 1 16 := ⟨by decide +kernel, rfl⟩
theorem e_X11_bitsOf_16 : kk_d cX11_bitsOf 16 (.ldc 8) 2 18 := ⟨by decide +kernel, rfl⟩
theorem e_X11_bitsOf_18 : kk_d cX11_bitsOf 18 .iand 1 19 := ⟨by decide +kernel, rfl⟩
theorem e_X11_bitsOf_19 : kk_d cX11_bitsOf 19 .iadd 1 20 := ⟨by decide +kernel, rfl⟩
theorem e_X11_bitsOf_20 : kk_d cX11_bitsOf 20 (.istore_n 1) 1 21 := ⟨by decide +kernel, rfl⟩
theorem e_X11_bitsOf_21 : kk_d cX11_bitsOf 21 (.iload_n 1) 1 22 := ⟨by decide +kernel, rfl⟩
theorem e_X11_bitsOf_22 : kk_d cX11_bitsOf 22 (.iload_n 1) 1 23 := ⟨by decide +kernel, rfl⟩
theorem e_X11_bitsOf_23 : kk_d cX11_bitsOf 23 (.iconst 4) 1 24 := ⟨by decide +kernel, rfl⟩
theorem e_X11_bitsOf_24 : kk_d cX11_bitsOf 24 .ishr 1 25 := ⟨by decide +kernel, rfl⟩
theorem e_X11_bitsOf_25 : kk_d cX11_bitsOf 25 .iadd 1 26 := ⟨by decide +kernel, rfl⟩
theorem e_X11_bitsOf_26 : kk_d cX11_bitsOf 26 (.ldc 9) 2 28 := ⟨by decide +kernel, rfl⟩
theorem e_X11_bitsOf_28 : kk_d cX11_bitsOf 28 .iand 1 29 := ⟨by decide +kernel, rfl⟩
theorem e_X11_bitsOf_29 : kk_d cX11_bitsOf 29 (.istore_n 1) 1 30 := ⟨by decide +kernel, rfl⟩
theorem e_X11_bitsOf_30 : kk_d cX11_bitsOf 30 (.iload_n 1) 1 31 := ⟨by decide +kernel, rfl⟩
theorem e_X11_bitsOf_31 : kk_d cX11_bitsOf 31 (.ldc 10) 2 33 := ⟨by decide +kernel, rfl⟩
theorem e_X11_bitsOf_33 : kk_d cX11_bitsOf 33 .imul 1 34 := ⟨by decide +kernel, rfl⟩
theorem e_X11_bitsOf_34 : kk_d cX11_bitsOf 34 (.bipush 24) 2 36 := ⟨by decide +kernel, rfl⟩
theorem e_X11_bitsOf_36 : kk_d cX11_bitsOf 36 .ishr 1 37 := ⟨by decide +kernel, rfl⟩
theorem e_X11_bitsOf_37 : kk_d cX11_bitsOf 37 .ireturn 1 38 := ⟨by decide +kernel, rfl⟩
set_option maxRecDepth 4000 in
theorem s_X11_bitsOf (Z : kk_Z) (v0 : Int32) (σ : kk_St) (Q : Int32 → Prop) (h : f_X11_bitsOf v0 Q) : kk_M Z sh_M yX11_bitsOf cX11_bitsOf 2 (some .int) (kk_R 2) [.int v0] σ (kk_Qi Z sh_M (fun r σ' => σ' = σ ∧ Q r)) := by
  unfold f_X11_bitsOf at h
  refine kk_met (own := RX11) (by decide) rfl (Nat.le_of_ble_eq_true rfl) rfl ?_
  refine kk_iload_n 0 rfl e_X11_bitsOf_0 ?_
  refine kk_iload_n 0 rfl e_X11_bitsOf_1 ?_
  refine kk_iconst ic_1 e_X11_bitsOf_2 ?_
  refine kk_ishr e_X11_bitsOf_3 ?_
  refine kk_ldc e_X11_bitsOf_4 cw_X11_7 ?_
  refine kk_iand e_X11_bitsOf_6 ?_
  refine kk_isub e_X11_bitsOf_7 ?_
  refine kk_topi (fun v1_1 ev1_1 => ?_)
  replace h := h v1_1 ev1_1
  refine kk_istore_n (lv' := [(1, .int v1_1), (0, .int v0)]) e_X11_bitsOf_8 rfl (by decide) rfl ?_
  refine kk_iload_n 0 rfl e_X11_bitsOf_9 ?_
  refine kk_ldc e_X11_bitsOf_10 cw_X11_8 ?_
  refine kk_iand e_X11_bitsOf_12 ?_
  refine kk_iload_n 0 rfl e_X11_bitsOf_13 ?_
  refine kk_iconst ic_2 e_X11_bitsOf_14 ?_
  refine kk_ishr e_X11_bitsOf_15 ?_
  refine kk_ldc e_X11_bitsOf_16 cw_X11_8 ?_
  refine kk_iand e_X11_bitsOf_18 ?_
  refine kk_iadd e_X11_bitsOf_19 ?_
  refine kk_topi (fun v1_2 ev1_2 => ?_)
  replace h := h v1_2 ev1_2
  refine kk_istore_n (lv' := [(1, .int v1_2), (0, .int v0)]) e_X11_bitsOf_20 rfl (by decide) rfl ?_
  refine kk_iload_n 0 rfl e_X11_bitsOf_21 ?_
  refine kk_iload_n 0 rfl e_X11_bitsOf_22 ?_
  refine kk_iconst ic_4 e_X11_bitsOf_23 ?_
  refine kk_ishr e_X11_bitsOf_24 ?_
  refine kk_iadd e_X11_bitsOf_25 ?_
  refine kk_ldc e_X11_bitsOf_26 cw_X11_9 ?_
  refine kk_iand e_X11_bitsOf_28 ?_
  refine kk_topi (fun v1_3 ev1_3 => ?_)
  replace h := h v1_3 ev1_3
  refine kk_istore_n (lv' := [(1, .int v1_3), (0, .int v0)]) e_X11_bitsOf_29 rfl (by decide) rfl ?_
  refine kk_iload_n 0 rfl e_X11_bitsOf_30 ?_
  refine kk_ldc e_X11_bitsOf_31 cw_X11_10 ?_
  refine kk_imul e_X11_bitsOf_33 ?_
  refine kk_bipush bp_24 e_X11_bitsOf_34 ?_
  refine kk_ishr e_X11_bitsOf_36 ?_
  exact kk_iret e_X11_bitsOf_37 ⟨rfl, h⟩
theorem e_X11_lowestOf_0 : kk_d cX11_lowestOf 0 (.iconst 0) 1 1 := ⟨by decide +kernel, rfl⟩
theorem e_X11_lowestOf_1 : kk_d cX11_lowestOf 1 (.istore_n 1) 1 2 := ⟨by decide +kernel, rfl⟩
theorem e_X11_lowestOf_2 : kk_d cX11_lowestOf 2 (.iload_n 0) 1 3 := ⟨by decide +kernel, rfl⟩
theorem e_X11_lowestOf_3 : kk_d cX11_lowestOf 3 (.iload_n 1) 1 4 := ⟨by decide +kernel, rfl⟩
theorem e_X11_lowestOf_4 : kk_d cX11_lowestOf 4 (.invokestatic 11) 3 7 := ⟨by decide +kernel, rfl⟩
theorem e_X11_lowestOf_7 : kk_dj cX11_lowestOf 7 (.ifCond .ne 9) 3 (9) 10 16 := ⟨by decide +kernel, rfl, by decide⟩
theorem e_X11_lowestOf_16 : kk_d cX11_lowestOf 16 (.iload_n 1) 1 17 := ⟨by decide +kernel, rfl⟩
theorem e_X11_lowestOf_17 : kk_d cX11_lowestOf 17 .ireturn 1 18 := ⟨by decide +kernel, rfl⟩
theorem e_X11_lowestOf_10 : kk_d cX11_lowestOf 10 (.iinc 1 1) 3 13 := ⟨by decide +kernel, rfl⟩
theorem e_X11_lowestOf_13 : kk_dj cX11_lowestOf 13 (.goto (-11)) 3 (-11) 16 2 := ⟨by decide +kernel, rfl, by decide⟩
set_option maxRecDepth 4000 in
theorem s_X11_lowestOf (Z : kk_Z) (v0 : Int32) (σ : kk_St) (Q : Int32 → Prop) (h : f_X11_lowestOf v0 Q) : kk_M Z sh_M yX11_lowestOf cX11_lowestOf 2 (some .int) (kk_R 3) [.int v0] σ (kk_Qi Z sh_M (fun r σ' => σ' = σ ∧ Q r)) := by
  unfold f_X11_lowestOf at h
  refine kk_met (own := RX11) (by decide) rfl (Nat.le_of_ble_eq_true rfl) rfl ?_
  refine kk_iconst ic_0 e_X11_lowestOf_0 ?_
  refine kk_istore_n (lv' := [(1, .int (0 : Int32)), (0, .int v0)]) e_X11_lowestOf_1 rfl (by decide) rfl ?_
  refine kk_sub [1, 0] rfl ?_
  refine kk_lpW1 (P := fun (v1_1 : Int32) => KK Z sh_M RX11 cX11_lowestOf 2 (some .int) (kk_R 3) (kk_Qi Z sh_M (fun r σ' => σ' = σ ∧ Q r)) 2 [(0, .int v0), (1, .int v1_1)] [] σ) ?_ h
  intro rec_2 hrec_2 v1_1 h
  refine kk_iload_n 0 rfl e_X11_lowestOf_2 ?_
  refine kk_iload_n 1 rfl e_X11_lowestOf_3 ?_
  refine kk_callSip (As := [.int v0, .int v1_1]) (rest := []) e_X11_lowestOf_4 ml_X11_11 rfl (kk_fitR (by decide) (by decide)) (Nat.le_of_ble_eq_true rfl) rfl (s_X11_has Z v0 v1_1 σ _ h) (fun r_3 h => ?_)
  refine kk_if_ne e_X11_lowestOf_7 (fun c_4 => ?_) (fun c_4 => ?_)
  · replace h := h.1 c_4
    refine kk_iload_n 1 rfl e_X11_lowestOf_16 ?_
    exact kk_iret e_X11_lowestOf_17 ⟨rfl, h⟩
  · replace h := h.2 c_4
    refine kk_iinc (lv' := [(1, .int (v1_1 + (1 : Int32))), (0, .int v0)]) e_X11_lowestOf_10 (j := 1) rfl (ii_1 v1_1) (by decide) rfl ?_
    refine kk_goto e_X11_lowestOf_13 ?_
    exact kk_sub [1, 0] rfl (hrec_2 (v1_1 + (1 : Int32)) h)
theorem e_X11_usedAt_0 : kk_d cX11_usedAt 0 (.iconst 0) 1 1 := ⟨by decide +kernel, rfl⟩
theorem e_X11_usedAt_1 : kk_d cX11_usedAt 1 (.istore_n 2) 1 2 := ⟨by decide +kernel, rfl⟩
theorem e_X11_usedAt_2 : kk_d cX11_usedAt 2 (.iconst 0) 1 3 := ⟨by decide +kernel, rfl⟩
theorem e_X11_usedAt_3 : kk_d cX11_usedAt 3 (.istore_n 3) 1 4 := ⟨by decide +kernel, rfl⟩
theorem e_X11_usedAt_4 : kk_d cX11_usedAt 4 (.iload_n 3) 1 5 := ⟨by decide +kernel, rfl⟩
theorem e_X11_usedAt_5 : kk_d cX11_usedAt 5 (.aload_n 0) 1 6 := ⟨by decide +kernel, rfl⟩
theorem e_X11_usedAt_6 : kk_d cX11_usedAt 6 (.getfield 96) 3 9 := ⟨by decide +kernel, rfl⟩
theorem e_X11_usedAt_9 : kk_dj cX11_usedAt 9 (.if_icmp .ge 38) 3 (38) 12 47 := ⟨by decide +kernel, rfl, by decide⟩
theorem e_X11_usedAt_47 : kk_d cX11_usedAt 47 (.iload_n 2) 1 48 := ⟨by decide +kernel, rfl⟩
theorem e_X11_usedAt_48 : kk_d cX11_usedAt 48 .ireturn 1 49 := ⟨by decide +kernel, rfl⟩
theorem e_X11_usedAt_12 : kk_d cX11_usedAt 12 (.aload_n 0) 1 13 := ⟨by decide +kernel, rfl⟩
theorem e_X11_usedAt_13 : kk_d cX11_usedAt 13 (.iload_n 3) 1 14 := ⟨by decide +kernel, rfl⟩
theorem e_X11_usedAt_14 : kk_d cX11_usedAt 14 (.iload_n 1) 1 15 := ⟨by decide +kernel, rfl⟩
theorem e_X11_usedAt_15 : kk_d cX11_usedAt 15 (.invokevirtual 114) 3 18 := ⟨by decide +kernel, rfl⟩
theorem e_X11_usedAt_18 : kk_dj cX11_usedAt 18 (.ifCond .eq 23) 3 (23) 21 41 := ⟨by decide +kernel, rfl, by decide⟩
theorem e_X11_usedAt_41 : kk_d cX11_usedAt 41 (.iinc 3 1) 3 44 := ⟨by decide +kernel, rfl⟩
theorem e_X11_usedAt_44 : kk_dj cX11_usedAt 44 (.goto (-40)) 3 (-40) 47 4 := ⟨by decide +kernel, rfl, by decide⟩
theorem e_X11_usedAt_21 : kk_d cX11_usedAt 21 (.aload_n 0) 1 22 := ⟨by decide +kernel, rfl⟩
theorem e_X11_usedAt_22 : kk_d cX11_usedAt 22 (.getfield 31) 3 25 := ⟨by decide +kernel, rfl⟩
theorem e_X11_usedAt_25 : kk_d cX11_usedAt 25 (.iload_n 3) 1 26 := ⟨by decide +kernel, rfl⟩
theorem e_X11_usedAt_26 : kk_d cX11_usedAt 26 .iaload 1 27 := ⟨by decide +kernel, rfl⟩
theorem e_X11_usedAt_27 : kk_dj cX11_usedAt 27 (.ifCond .lt 14) 3 (14) 30 41 := ⟨by decide +kernel, rfl, by decide⟩
theorem e_X11_usedAt_30 : kk_d cX11_usedAt 30 (.iload_n 2) 1 31 := ⟨by decide +kernel, rfl⟩
theorem e_X11_usedAt_31 : kk_d cX11_usedAt 31 (.iconst 1) 1 32 := ⟨by decide +kernel, rfl⟩
theorem e_X11_usedAt_32 : kk_d cX11_usedAt 32 (.aload_n 0) 1 33 := ⟨by decide +kernel, rfl⟩
theorem e_X11_usedAt_33 : kk_d cX11_usedAt 33 (.getfield 31) 3 36 := ⟨by decide +kernel, rfl⟩
theorem e_X11_usedAt_36 : kk_d cX11_usedAt 36 (.iload_n 3) 1 37 := ⟨by decide +kernel, rfl⟩
theorem e_X11_usedAt_37 : kk_d cX11_usedAt 37 .iaload 1 38 := ⟨by decide +kernel, rfl⟩
theorem e_X11_usedAt_38 : kk_d cX11_usedAt 38 .ishl 1 39 := ⟨by decide +kernel, rfl⟩
theorem e_X11_usedAt_39 : kk_d cX11_usedAt 39 .ior 1 40 := ⟨by decide +kernel, rfl⟩
theorem e_X11_usedAt_40 : kk_d cX11_usedAt 40 (.istore_n 2) 1 41 := ⟨by decide +kernel, rfl⟩
set_option maxRecDepth 4000 in
theorem s_X11_usedAt (Z : kk_Z) (v1 : Int32) (σ : kk_St) (Q : Int32 → Prop) (h : f_X11_usedAt v1 σ Q) : kk_M Z sh_M yX11_usedAt cX11_usedAt 4 (some .int) (kk_R 3) [.ref (Z.2.1 0), .int v1] σ (kk_Qi Z sh_M (fun r σ' => σ' = σ ∧ Q r)) := by
  unfold f_X11_usedAt at h
  refine kk_met (own := RX11) (by decide) rfl (Nat.le_of_ble_eq_true rfl) rfl ?_
  refine kk_iconst ic_0 e_X11_usedAt_0 ?_
  refine kk_istore_n (lv' := [(2, .int (0 : Int32)), (0, .ref (Z.2.1 0)), (1, .int v1)]) e_X11_usedAt_1 rfl (by decide) rfl ?_
  refine kk_iconst ic_0 e_X11_usedAt_2 ?_
  refine kk_istore_n (lv' := [(3, .int (0 : Int32)), (2, .int (0 : Int32)), (0, .ref (Z.2.1 0)), (1, .int v1)]) e_X11_usedAt_3 rfl (by decide) rfl ?_
  refine kk_sub [2, 3, 1, 0] rfl ?_
  refine kk_lpW2 (P := fun (v2_1 : Int32) (v3_2 : Int32) => KK Z sh_M RX11 cX11_usedAt 4 (some .int) (kk_R 3) (kk_Qi Z sh_M (fun r σ' => σ' = σ ∧ Q r)) 4 [(0, .ref (Z.2.1 0)), (1, .int v1), (2, .int v2_1), (3, .int v3_2)] [] σ) ?_ h
  intro rec_3 hrec_3 v2_1 v3_2 h
  refine kk_iload_n 3 rfl e_X11_usedAt_4 ?_
  refine kk_aload_n 0 rfl e_X11_usedAt_5 ?_
  refine kk_geti e_X11_usedAt_6 fl_X11_96 rfl rfl ?_
  refine kk_icmp_ge e_X11_usedAt_9 (fun c_10 => ?_) (fun c_10 => ?_)
  · replace h := h.1 c_10
    refine kk_iload_n 2 rfl e_X11_usedAt_47 ?_
    exact kk_iret e_X11_usedAt_48 ⟨rfl, h⟩
  · replace h := h.2 c_10
    refine kk_aload_n 0 rfl e_X11_usedAt_12 ?_
    refine kk_iload_n 3 rfl e_X11_usedAt_13 ?_
    refine kk_iload_n 1 rfl e_X11_usedAt_14 ?_
    refine kk_callVip (As := [.int v3_2, .int v1]) (rest := []) e_X11_usedAt_15 ml_X11_114 ⟨_, _, _, _, rfl, rfl⟩ rfl (kk_fitR (by decide) (by decide)) (Nat.le_of_ble_eq_true rfl) rfl (s_X11_isAt Z v3_2 v1 σ _ h) (fun r_4 h => ?_)
    refine kk_jW1 (P := fun (v2_5 : Int32) => KK Z sh_M RX11 cX11_usedAt 4 (some .int) (kk_R 3) (kk_Qi Z sh_M (fun r σ' => σ' = σ ∧ Q r)) 41 [(0, .ref (Z.2.1 0)), (1, .int v1), (2, .int v2_5), (3, .int v3_2)] [] σ) h ?_ ?_
    · intro v2_5 h
      refine kk_iinc (lv' := [(3, .int (v3_2 + (1 : Int32))), (0, .ref (Z.2.1 0)), (1, .int v1), (2, .int v2_5)]) e_X11_usedAt_41 (j := 3) rfl (ii_1 v3_2) (by decide) rfl ?_
      refine kk_goto e_X11_usedAt_44 ?_
      exact kk_sub [1, 2, 3, 0] rfl (hrec_3 v2_5 (v3_2 + (1 : Int32)) h)
    · intro J_6 hJ_6 h
      refine kk_if_eq e_X11_usedAt_18 (fun c_9 => ?_) (fun c_9 => ?_)
      · replace h := h.1 c_9
        exact kk_sub [0, 1, 2, 3] rfl (hJ_6 v2_1 h)
      · replace h := h.2 c_9
        refine kk_aload_n 0 rfl e_X11_usedAt_21 ?_
        refine kk_getr e_X11_usedAt_22 fl_X11_31 rfl rfl ?_
        refine kk_iload_n 3 rfl e_X11_usedAt_25 ?_
        refine kk_iald e_X11_usedAt_26 rfl h.1 ?_
        replace h := h.2
        refine kk_if_lt e_X11_usedAt_27 (fun c_8 => ?_) (fun c_8 => ?_)
        · replace h := h.1 c_8
          exact kk_sub [0, 1, 2, 3] rfl (hJ_6 v2_1 h)
        · replace h := h.2 c_8
          refine kk_iload_n 2 rfl e_X11_usedAt_30 ?_
          refine kk_iconst ic_1 e_X11_usedAt_31 ?_
          refine kk_aload_n 0 rfl e_X11_usedAt_32 ?_
          refine kk_getr e_X11_usedAt_33 fl_X11_31 rfl rfl ?_
          refine kk_iload_n 3 rfl e_X11_usedAt_36 ?_
          refine kk_iald e_X11_usedAt_37 rfl h.1 ?_
          replace h := h.2
          refine kk_ishl e_X11_usedAt_38 ?_
          refine kk_ior e_X11_usedAt_39 ?_
          refine kk_topi (fun v2_7 ev2_7 => ?_)
          replace h := h v2_7 ev2_7
          refine kk_istore_n (lv' := [(2, .int v2_7), (0, .ref (Z.2.1 0)), (1, .int v1), (3, .int v3_2)]) e_X11_usedAt_40 rfl (by decide) rfl ?_
          exact kk_sub [1, 2, 0, 3] rfl (hJ_6 v2_7 h)
theorem e_X11_idleAt_0 : kk_d cX11_idleAt 0 (.aload_n 0) 1 1 := ⟨by decide +kernel, rfl⟩
theorem e_X11_idleAt_1 : kk_d cX11_idleAt 1 (.iload_n 1) 1 2 := ⟨by decide +kernel, rfl⟩
theorem e_X11_idleAt_2 : kk_d cX11_idleAt 2 (.invokevirtual 195) 3 5 := ⟨by decide +kernel, rfl⟩
theorem e_X11_idleAt_5 : kk_d cX11_idleAt 5 (.istore_n 2) 1 6 := ⟨by decide +kernel, rfl⟩
theorem e_X11_idleAt_6 : kk_d cX11_idleAt 6 (.iload_n 2) 1 7 := ⟨by decide +kernel, rfl⟩
theorem e_X11_idleAt_7 : kk_dj cX11_idleAt 7 (.ifCond .ne 5) 3 (5) 10 12 := ⟨by decide +kernel, rfl, by decide⟩
theorem e_X11_idleAt_12 : kk_d cX11_idleAt 12 (.iload_n 2) 1 13 := ⟨by decide +kernel, rfl⟩
theorem e_X11_idleAt_13 : kk_d cX11_idleAt 13 (.invokestatic 166) 3 16 := ⟨by decide +kernel, rfl⟩
theorem e_X11_idleAt_16 : kk_d cX11_idleAt 16 (.istore_n 3) 1 17 := ⟨by decide +kernel, rfl⟩
theorem e_X11_idleAt_17 : kk_d cX11_idleAt 17 (.iload_n 3) 1 18 := ⟨by decide +kernel, rfl⟩
theorem e_X11_idleAt_18 : kk_d cX11_idleAt 18 (.istore 4) 2 20 := ⟨by decide +kernel, rfl⟩
theorem e_X11_idleAt_20 : kk_d cX11_idleAt 20 (.iload 4) 2 22 := ⟨by decide +kernel, rfl⟩
theorem e_X11_idleAt_22 : kk_d cX11_idleAt 22 (.bipush 20) 2 24 := ⟨by decide +kernel, rfl⟩
theorem e_X11_idleAt_24 : kk_dj cX11_idleAt 24 (.if_icmp .ge 21) 3 (21) 27 45 := ⟨by decide +kernel, rfl, by decide⟩
theorem e_X11_idleAt_45 : kk_d cX11_idleAt 45 (.iload_n 3) 1 46 := ⟨by decide +kernel, rfl⟩
theorem e_X11_idleAt_46 : kk_d cX11_idleAt 46 (.iload_n 2) 1 47 := ⟨by decide +kernel, rfl⟩
theorem e_X11_idleAt_47 : kk_d cX11_idleAt 47 (.invokestatic 166) 3 50 := ⟨by decide +kernel, rfl⟩
theorem e_X11_idleAt_50 : kk_d cX11_idleAt 50 .isub 1 51 := ⟨by decide +kernel, rfl⟩
theorem e_X11_idleAt_51 : kk_d cX11_idleAt 51 (.iload_n 2) 1 52 := ⟨by decide +kernel, rfl⟩
theorem e_X11_idleAt_52 : kk_d cX11_idleAt 52 (.invokestatic 160) 3 55 := ⟨by decide +kernel, rfl⟩
theorem e_X11_idleAt_55 : kk_d cX11_idleAt 55 .isub 1 56 := ⟨by decide +kernel, rfl⟩
theorem e_X11_idleAt_56 : kk_d cX11_idleAt 56 (.iconst 1) 1 57 := ⟨by decide +kernel, rfl⟩
theorem e_X11_idleAt_57 : kk_d cX11_idleAt 57 .iadd 1 58 := ⟨by decide +kernel, rfl⟩
theorem e_X11_idleAt_58 : kk_d cX11_idleAt 58 .ireturn 1 59 := ⟨by decide +kernel, rfl⟩
theorem e_X11_idleAt_27 : kk_d cX11_idleAt 27 (.iload_n 2) 1 28 := ⟨by decide +kernel, rfl⟩
theorem e_X11_idleAt_28 : kk_d cX11_idleAt 28 (.iload 4) 2 30 := ⟨by decide +kernel, rfl⟩
theorem e_X11_idleAt_30 : kk_d cX11_idleAt 30 (.invokestatic 11) 3 33 := ⟨by decide +kernel, rfl⟩
theorem e_X11_idleAt_33 : kk_dj cX11_idleAt 33 (.ifCond .eq 6) 3 (6) 36 39 := ⟨by decide +kernel, rfl, by decide⟩
theorem e_X11_idleAt_39 : kk_d cX11_idleAt 39 (.iinc 4 1) 3 42 := ⟨by decide +kernel, rfl⟩
theorem e_X11_idleAt_42 : kk_dj cX11_idleAt 42 (.goto (-22)) 3 (-22) 45 20 := ⟨by decide +kernel, rfl, by decide⟩
theorem e_X11_idleAt_36 : kk_d cX11_idleAt 36 (.iload 4) 2 38 := ⟨by decide +kernel, rfl⟩
theorem e_X11_idleAt_38 : kk_d cX11_idleAt 38 (.istore_n 3) 1 39 := ⟨by decide +kernel, rfl⟩
theorem e_X11_idleAt_10 : kk_d cX11_idleAt 10 (.iconst 0) 1 11 := ⟨by decide +kernel, rfl⟩
theorem e_X11_idleAt_11 : kk_d cX11_idleAt 11 .ireturn 1 12 := ⟨by decide +kernel, rfl⟩
set_option maxRecDepth 4000 in
theorem s_X11_idleAt (Z : kk_Z) (v1 : Int32) (σ : kk_St) (Q : Int32 → Prop) (h : f_X11_idleAt v1 σ Q) : kk_M Z sh_M yX11_idleAt cX11_idleAt 5 (some .int) (kk_R 4) [.ref (Z.2.1 0), .int v1] σ (kk_Qi Z sh_M (fun r σ' => σ' = σ ∧ Q r)) := by
  unfold f_X11_idleAt at h
  refine kk_met (own := RX11) (by decide) rfl (Nat.le_of_ble_eq_true rfl) rfl ?_
  refine kk_aload_n 0 rfl e_X11_idleAt_0 ?_
  refine kk_iload_n 1 rfl e_X11_idleAt_1 ?_
  refine kk_callVip (As := [.int v1]) (rest := []) e_X11_idleAt_2 ml_X11_195 ⟨_, _, _, _, rfl, rfl⟩ rfl (kk_fitR (by decide) (by decide)) (Nat.le_of_ble_eq_true rfl) rfl (s_X11_usedAt Z v1 σ _ h) (fun r_1 h => ?_)
  refine kk_istore_n (lv' := [(2, .int r_1), (0, .ref (Z.2.1 0)), (1, .int v1)]) e_X11_idleAt_5 rfl (by decide) rfl ?_
  refine kk_iload_n 0 rfl e_X11_idleAt_6 ?_
  refine kk_if_ne e_X11_idleAt_7 (fun c_13 => ?_) (fun c_13 => ?_)
  · replace h := h.1 c_13
    refine kk_iload_n 0 rfl e_X11_idleAt_12 ?_
    refine kk_callSip (As := [.int r_1]) (rest := []) e_X11_idleAt_13 ml_X11_166 rfl (kk_fitR (by decide) (by decide)) (Nat.le_of_ble_eq_true rfl) rfl (s_X11_lowestOf Z r_1 σ _ h) (fun r_2 h => ?_)
    refine kk_istore_n (lv' := [(3, .int r_2), (2, .int r_1), (0, .ref (Z.2.1 0)), (1, .int v1)]) e_X11_idleAt_16 rfl (by decide) rfl ?_
    refine kk_iload_n 0 rfl e_X11_idleAt_17 ?_
    refine kk_istore (lv' := [(4, .int r_2), (3, .int r_2), (2, .int r_1), (0, .ref (Z.2.1 0)), (1, .int v1)]) e_X11_idleAt_18 (by decide) rfl ?_
    refine kk_sub [2, 1, 0] rfl ?_
    refine kk_lpW2 (P := fun (v3_3 : Int32) (v4_4 : Int32) => KK Z sh_M RX11 cX11_idleAt 5 (some .int) (kk_R 4) (kk_Qi Z sh_M (fun r σ' => σ' = σ ∧ Q r)) 20 [(2, .int r_1), (3, .int v3_3), (4, .int v4_4)] [] σ) ?_ h
    intro rec_5 hrec_5 v3_3 v4_4 h
    refine kk_iload 2 rfl e_X11_idleAt_20 ?_
    refine kk_bipush bp_20 e_X11_idleAt_22 ?_
    refine kk_icmp_ge e_X11_idleAt_24 (fun c_12 => ?_) (fun c_12 => ?_)
    · replace h := h.1 c_12
      refine kk_iload_n 1 rfl e_X11_idleAt_45 ?_
      refine kk_iload_n 0 rfl e_X11_idleAt_46 ?_
      refine kk_callSip (As := [.int r_1]) (rest := [.int v3_3]) e_X11_idleAt_47 ml_X11_166 rfl (kk_fitR (by decide) (by decide)) (Nat.le_of_ble_eq_true rfl) rfl (s_X11_lowestOf Z r_1 σ _ h) (fun r_6 h => ?_)
      refine kk_isub e_X11_idleAt_50 ?_
      refine kk_iload_n 0 rfl e_X11_idleAt_51 ?_
      refine kk_callSip (As := [.int r_1]) (rest := [.int (v3_3 - r_6)]) e_X11_idleAt_52 ml_X11_160 rfl (kk_fitR (by decide) (by decide)) (Nat.le_of_ble_eq_true rfl) rfl (s_X11_bitsOf Z r_1 σ _ h) (fun r_7 h => ?_)
      refine kk_isub e_X11_idleAt_55 ?_
      refine kk_iconst ic_1 e_X11_idleAt_56 ?_
      refine kk_iadd e_X11_idleAt_57 ?_
      exact kk_iret e_X11_idleAt_58 ⟨rfl, h⟩
    · replace h := h.2 c_12
      refine kk_iload_n 0 rfl e_X11_idleAt_27 ?_
      refine kk_iload 2 rfl e_X11_idleAt_28 ?_
      refine kk_callSip (As := [.int r_1, .int v4_4]) (rest := []) e_X11_idleAt_30 ml_X11_11 rfl (kk_fitR (by decide) (by decide)) (Nat.le_of_ble_eq_true rfl) rfl (s_X11_has Z r_1 v4_4 σ _ h) (fun r_8 h => ?_)
      refine kk_jW1 (P := fun (v3_9 : Int32) => KK Z sh_M RX11 cX11_idleAt 5 (some .int) (kk_R 4) (kk_Qi Z sh_M (fun r σ' => σ' = σ ∧ Q r)) 39 [(2, .int r_1), (3, .int v3_9), (4, .int v4_4)] [] σ) h ?_ ?_
      · intro v3_9 h
        refine kk_iinc (lv' := [(4, .int (v4_4 + (1 : Int32))), (2, .int r_1), (3, .int v3_9)]) e_X11_idleAt_39 (j := 2) rfl (ii_1 v4_4) (by decide) rfl ?_
        refine kk_goto e_X11_idleAt_42 ?_
        exact kk_sub [1, 2, 0] rfl (hrec_5 v3_9 (v4_4 + (1 : Int32)) h)
      · intro J_10 hJ_10 h
        refine kk_if_eq e_X11_idleAt_33 (fun c_11 => ?_) (fun c_11 => ?_)
        · replace h := h.1 c_11
          exact kk_sub [0, 1, 2] rfl (hJ_10 v3_3 h)
        · replace h := h.2 c_11
          refine kk_iload 2 rfl e_X11_idleAt_36 ?_
          refine kk_istore_n (lv' := [(3, .int v4_4), (2, .int r_1), (4, .int v4_4)]) e_X11_idleAt_38 rfl (by decide) rfl ?_
          exact kk_sub [1, 0, 2] rfl (hJ_10 v4_4 h)
  · replace h := h.2 c_13
    refine kk_iconst ic_0 e_X11_idleAt_10 ?_
    exact kk_iret e_X11_idleAt_11 ⟨rfl, h⟩
theorem e_X11_idleAll_0 : kk_d cX11_idleAll 0 (.iconst 0) 1 1 := ⟨by decide +kernel, rfl⟩
theorem e_X11_idleAll_1 : kk_d cX11_idleAll 1 (.istore_n 1) 1 2 := ⟨by decide +kernel, rfl⟩
theorem e_X11_idleAll_2 : kk_d cX11_idleAll 2 (.iconst 0) 1 3 := ⟨by decide +kernel, rfl⟩
theorem e_X11_idleAll_3 : kk_d cX11_idleAll 3 (.istore_n 2) 1 4 := ⟨by decide +kernel, rfl⟩
theorem e_X11_idleAll_4 : kk_d cX11_idleAll 4 (.iload_n 2) 1 5 := ⟨by decide +kernel, rfl⟩
theorem e_X11_idleAll_5 : kk_d cX11_idleAll 5 (.aload_n 0) 1 6 := ⟨by decide +kernel, rfl⟩
theorem e_X11_idleAll_6 : kk_d cX11_idleAll 6 (.getfield 21) 3 9 := ⟨by decide +kernel, rfl⟩
theorem e_X11_idleAll_9 : kk_dj cX11_idleAll 9 (.if_icmp .ge 17) 3 (17) 12 26 := ⟨by decide +kernel, rfl, by decide⟩
theorem e_X11_idleAll_26 : kk_d cX11_idleAll 26 (.iload_n 1) 1 27 := ⟨by decide +kernel, rfl⟩
theorem e_X11_idleAll_27 : kk_d cX11_idleAll 27 .ireturn 1 28 := ⟨by decide +kernel, rfl⟩
theorem e_X11_idleAll_12 : kk_d cX11_idleAll 12 (.iload_n 1) 1 13 := ⟨by decide +kernel, rfl⟩
theorem e_X11_idleAll_13 : kk_d cX11_idleAll 13 (.aload_n 0) 1 14 := ⟨by decide +kernel, rfl⟩
theorem e_X11_idleAll_14 : kk_d cX11_idleAll 14 (.iload_n 2) 1 15 := ⟨by decide +kernel, rfl⟩
theorem e_X11_idleAll_15 : kk_d cX11_idleAll 15 (.invokevirtual 308) 3 18 := ⟨by decide +kernel, rfl⟩
theorem e_X11_idleAll_18 : kk_d cX11_idleAll 18 .iadd 1 19 := ⟨by decide +kernel, rfl⟩
theorem e_X11_idleAll_19 : kk_d cX11_idleAll 19 (.istore_n 1) 1 20 := ⟨by decide +kernel, rfl⟩
theorem e_X11_idleAll_20 : kk_d cX11_idleAll 20 (.iinc 2 1) 3 23 := ⟨by decide +kernel, rfl⟩
theorem e_X11_idleAll_23 : kk_dj cX11_idleAll 23 (.goto (-19)) 3 (-19) 26 4 := ⟨by decide +kernel, rfl, by decide⟩
set_option maxRecDepth 4000 in
theorem s_X11_idleAll (Z : kk_Z) (σ : kk_St) (Q : Int32 → Prop) (h : f_X11_idleAll σ Q) : kk_M Z sh_M yX11_idleAll cX11_idleAll 3 (some .int) (kk_R 5) [.ref (Z.2.1 0)] σ (kk_Qi Z sh_M (fun r σ' => σ' = σ ∧ Q r)) := by
  unfold f_X11_idleAll at h
  refine kk_met (own := RX11) (by decide) rfl (Nat.le_of_ble_eq_true rfl) rfl ?_
  refine kk_iconst ic_0 e_X11_idleAll_0 ?_
  refine kk_istore_n (lv' := [(1, .int (0 : Int32)), (0, .ref (Z.2.1 0))]) e_X11_idleAll_1 rfl (by decide) rfl ?_
  refine kk_iconst ic_0 e_X11_idleAll_2 ?_
  refine kk_istore_n (lv' := [(2, .int (0 : Int32)), (1, .int (0 : Int32)), (0, .ref (Z.2.1 0))]) e_X11_idleAll_3 rfl (by decide) rfl ?_
  refine kk_sub [2, 1, 0] rfl ?_
  refine kk_lpW2 (P := fun (v1_1 : Int32) (v2_2 : Int32) => KK Z sh_M RX11 cX11_idleAll 3 (some .int) (kk_R 5) (kk_Qi Z sh_M (fun r σ' => σ' = σ ∧ Q r)) 4 [(0, .ref (Z.2.1 0)), (1, .int v1_1), (2, .int v2_2)] [] σ) ?_ h
  intro rec_3 hrec_3 v1_1 v2_2 h
  refine kk_iload_n 2 rfl e_X11_idleAll_4 ?_
  refine kk_aload_n 0 rfl e_X11_idleAll_5 ?_
  refine kk_geti e_X11_idleAll_6 fl_X11_21 rfl rfl ?_
  refine kk_icmp_ge e_X11_idleAll_9 (fun c_5 => ?_) (fun c_5 => ?_)
  · replace h := h.1 c_5
    refine kk_iload_n 1 rfl e_X11_idleAll_26 ?_
    exact kk_iret e_X11_idleAll_27 ⟨rfl, h⟩
  · replace h := h.2 c_5
    refine kk_iload_n 1 rfl e_X11_idleAll_12 ?_
    refine kk_aload_n 0 rfl e_X11_idleAll_13 ?_
    refine kk_iload_n 2 rfl e_X11_idleAll_14 ?_
    refine kk_callVip (As := [.int v2_2]) (rest := [.int v1_1]) e_X11_idleAll_15 ml_X11_308 ⟨_, _, _, _, rfl, rfl⟩ rfl (kk_fitR (by decide) (by decide)) (Nat.le_of_ble_eq_true rfl) rfl (s_X11_idleAt Z v2_2 σ _ h) (fun r_4 h => ?_)
    refine kk_iadd e_X11_idleAll_18 ?_
    refine kk_istore_n (lv' := [(1, .int (v1_1 + r_4)), (0, .ref (Z.2.1 0)), (2, .int v2_2)]) e_X11_idleAll_19 rfl (by decide) rfl ?_
    refine kk_iinc (lv' := [(2, .int (v2_2 + (1 : Int32))), (1, .int (v1_1 + r_4)), (0, .ref (Z.2.1 0))]) e_X11_idleAll_20 (j := 2) rfl (ii_1 v2_2) (by decide) rfl ?_
    refine kk_goto e_X11_idleAll_23 ?_
    exact kk_sub [2, 1, 0] rfl (hrec_3 (v1_1 + r_4) (v2_2 + (1 : Int32)) h)
theorem e_X11_swaps_0 : kk_d cX11_swaps 0 (.iconst 0) 1 1 := ⟨by decide +kernel, rfl⟩
theorem e_X11_swaps_1 : kk_d cX11_swaps 1 (.istore_n 3) 1 2 := ⟨by decide +kernel, rfl⟩
theorem e_X11_swaps_2 : kk_d cX11_swaps 2 (.iconst 0) 1 3 := ⟨by decide +kernel, rfl⟩
theorem e_X11_swaps_3 : kk_d cX11_swaps 3 (.istore 4) 2 5 := ⟨by decide +kernel, rfl⟩
theorem e_X11_swaps_5 : kk_d cX11_swaps 5 (.iload 4) 2 7 := ⟨by decide +kernel, rfl⟩
theorem e_X11_swaps_7 : kk_d cX11_swaps 7 (.aload_n 0) 1 8 := ⟨by decide +kernel, rfl⟩
theorem e_X11_swaps_8 : kk_d cX11_swaps 8 (.getfield 96) 3 11 := ⟨by decide +kernel, rfl⟩
theorem e_X11_swaps_11 : kk_dj cX11_swaps 11 (.if_icmp .ge 55) 3 (55) 14 66 := ⟨by decide +kernel, rfl, by decide⟩
theorem e_X11_swaps_66 : kk_d cX11_swaps 66 (.iload_n 3) 1 67 := ⟨by decide +kernel, rfl⟩
theorem e_X11_swaps_67 : kk_d cX11_swaps 67 .ireturn 1 68 := ⟨by decide +kernel, rfl⟩
theorem e_X11_swaps_14 : kk_d cX11_swaps 14 (.aload_n 0) 1 15 := ⟨by decide +kernel, rfl⟩
theorem e_X11_swaps_15 : kk_d cX11_swaps 15 (.getfield 31) 3 18 := ⟨by decide +kernel, rfl⟩
theorem e_X11_swaps_18 : kk_d cX11_swaps 18 (.iload 4) 2 20 := ⟨by decide +kernel, rfl⟩
theorem e_X11_swaps_20 : kk_d cX11_swaps 20 .iaload 1 21 := ⟨by decide +kernel, rfl⟩
theorem e_X11_swaps_21 : kk_d cX11_swaps 21 (.iload_n 1) 1 22 := ⟨by decide +kernel, rfl⟩
theorem e_X11_swaps_22 : kk_dj cX11_swaps 22 (.if_icmp .eq 17) 3 (17) 25 39 := ⟨by decide +kernel, rfl, by decide⟩
theorem e_X11_swaps_60 : kk_d cX11_swaps 60 (.iinc 4 1) 3 63 := ⟨by decide +kernel, rfl⟩
theorem e_X11_swaps_63 : kk_dj cX11_swaps 63 (.goto (-58)) 3 (-58) 66 5 := ⟨by decide +kernel, rfl, by decide⟩
theorem e_X11_swaps_39 : kk_d cX11_swaps 39 (.aload_n 0) 1 40 := ⟨by decide +kernel, rfl⟩
theorem e_X11_swaps_40 : kk_d cX11_swaps 40 (.getfield 31) 3 43 := ⟨by decide +kernel, rfl⟩
theorem e_X11_swaps_43 : kk_d cX11_swaps 43 (.iload 4) 2 45 := ⟨by decide +kernel, rfl⟩
theorem e_X11_swaps_45 : kk_d cX11_swaps 45 (.iload_n 1) 1 46 := ⟨by decide +kernel, rfl⟩
theorem e_X11_swaps_46 : kk_d cX11_swaps 46 (.iload_n 2) 1 47 := ⟨by decide +kernel, rfl⟩
theorem e_X11_swaps_47 : kk_d cX11_swaps 47 .iadd 1 48 := ⟨by decide +kernel, rfl⟩
theorem e_X11_swaps_48 : kk_d cX11_swaps 48 (.aload_n 0) 1 49 := ⟨by decide +kernel, rfl⟩
theorem e_X11_swaps_49 : kk_d cX11_swaps 49 (.getfield 31) 3 52 := ⟨by decide +kernel, rfl⟩
theorem e_X11_swaps_52 : kk_d cX11_swaps 52 (.iload 4) 2 54 := ⟨by decide +kernel, rfl⟩
theorem e_X11_swaps_54 : kk_d cX11_swaps 54 .iaload 1 55 := ⟨by decide +kernel, rfl⟩
theorem e_X11_swaps_55 : kk_d cX11_swaps 55 .isub 1 56 := ⟨by decide +kernel, rfl⟩
theorem e_X11_swaps_56 : kk_d cX11_swaps 56 .iastore 1 57 := ⟨by decide +kernel, rfl⟩
theorem e_X11_swaps_57 : kk_d cX11_swaps 57 (.iinc 3 1) 3 60 := ⟨by decide +kernel, rfl⟩
theorem e_X11_swaps_25 : kk_d cX11_swaps 25 (.aload_n 0) 1 26 := ⟨by decide +kernel, rfl⟩
theorem e_X11_swaps_26 : kk_d cX11_swaps 26 (.getfield 31) 3 29 := ⟨by decide +kernel, rfl⟩
theorem e_X11_swaps_29 : kk_d cX11_swaps 29 (.iload 4) 2 31 := ⟨by decide +kernel, rfl⟩
theorem e_X11_swaps_31 : kk_d cX11_swaps 31 .iaload 1 32 := ⟨by decide +kernel, rfl⟩
theorem e_X11_swaps_32 : kk_d cX11_swaps 32 (.iload_n 2) 1 33 := ⟨by decide +kernel, rfl⟩
theorem e_X11_swaps_33 : kk_dj cX11_swaps 33 (.if_icmp .eq 6) 3 (6) 36 39 := ⟨by decide +kernel, rfl, by decide⟩
theorem e_X11_swaps_36 : kk_dj cX11_swaps 36 (.goto 24) 3 (24) 39 60 := ⟨by decide +kernel, rfl, by decide⟩
set_option maxRecDepth 4000 in
theorem s_X11_swaps (Z : kk_Z) (v1 : Int32) (v2 : Int32) (σ : kk_St) (Q : Int32 → kk_St → Prop) (h : f_X11_swaps v1 v2 σ Q) : kk_M Z sh_M yX11_swaps cX11_swaps 5 (some .int) (kk_R 2) [.ref (Z.2.1 0), .int v1, .int v2] σ (kk_Qi Z sh_M Q) := by
  unfold f_X11_swaps at h
  refine kk_met (own := RX11) (by decide) rfl (Nat.le_of_ble_eq_true rfl) rfl ?_
  refine kk_iconst ic_0 e_X11_swaps_0 ?_
  refine kk_istore_n (lv' := [(3, .int (0 : Int32)), (0, .ref (Z.2.1 0)), (1, .int v1), (2, .int v2)]) e_X11_swaps_1 rfl (by decide) rfl ?_
  refine kk_iconst ic_0 e_X11_swaps_2 ?_
  refine kk_istore (lv' := [(4, .int (0 : Int32)), (3, .int (0 : Int32)), (0, .ref (Z.2.1 0)), (1, .int v1), (2, .int v2)]) e_X11_swaps_3 (by decide) rfl ?_
  refine kk_sub [2, 3, 4, 1, 0] rfl ?_
  refine kk_lpW3 (P := fun (v3_1 : Int32) (v4_2 : Int32) (σ_3 : kk_St) => KK Z sh_M RX11 cX11_swaps 5 (some .int) (kk_R 2) (kk_Qi Z sh_M Q) 5 [(0, .ref (Z.2.1 0)), (1, .int v1), (2, .int v2), (3, .int v3_1), (4, .int v4_2)] [] σ_3) ?_ h
  intro rec_4 hrec_4 v3_1 v4_2 σ_3 h
  refine kk_iload 4 rfl e_X11_swaps_5 ?_
  refine kk_aload_n 0 rfl e_X11_swaps_7 ?_
  refine kk_geti e_X11_swaps_8 fl_X11_96 rfl rfl ?_
  refine kk_icmp_ge e_X11_swaps_11 (fun c_12 => ?_) (fun c_12 => ?_)
  · replace h := h.1 c_12
    refine kk_iload_n 3 rfl e_X11_swaps_66 ?_
    exact kk_iret e_X11_swaps_67 h
  · replace h := h.2 c_12
    refine kk_aload_n 0 rfl e_X11_swaps_14 ?_
    refine kk_getr e_X11_swaps_15 fl_X11_31 rfl rfl ?_
    refine kk_iload 4 rfl e_X11_swaps_18 ?_
    refine kk_iald e_X11_swaps_20 rfl h.1 ?_
    replace h := h.2
    refine kk_iload_n 1 rfl e_X11_swaps_21 ?_
    refine kk_jW2 (P := fun (v3_5 : Int32) (σ_6 : kk_St) => KK Z sh_M RX11 cX11_swaps 5 (some .int) (kk_R 2) (kk_Qi Z sh_M Q) 60 [(0, .ref (Z.2.1 0)), (1, .int v1), (2, .int v2), (3, .int v3_5), (4, .int v4_2)] [] σ_6) h ?_ ?_
    · intro v3_5 σ_6 h
      refine kk_iinc (lv' := [(4, .int (v4_2 + (1 : Int32))), (0, .ref (Z.2.1 0)), (1, .int v1), (2, .int v2), (3, .int v3_5)]) e_X11_swaps_60 (j := 4) rfl (ii_1 v4_2) (by decide) rfl ?_
      refine kk_goto e_X11_swaps_63 ?_
      exact kk_sub [1, 2, 3, 4, 0] rfl (hrec_4 v3_5 (v4_2 + (1 : Int32)) σ_6 h)
    · intro J_7 hJ_7 h
      refine kk_jW0 (P := KK Z sh_M RX11 cX11_swaps 5 (some .int) (kk_R 2) (kk_Qi Z sh_M Q) 39 [(0, .ref (Z.2.1 0)), (1, .int v1), (2, .int v2), (3, .int v3_1), (4, .int v4_2)] [] σ_3) h ?_ ?_
      · intro h
        refine kk_aload_n 0 rfl e_X11_swaps_39 ?_
        refine kk_getr e_X11_swaps_40 fl_X11_31 rfl rfl ?_
        refine kk_iload 4 rfl e_X11_swaps_43 ?_
        refine kk_iload_n 1 rfl e_X11_swaps_45 ?_
        refine kk_iload_n 2 rfl e_X11_swaps_46 ?_
        refine kk_iadd e_X11_swaps_47 ?_
        refine kk_aload_n 0 rfl e_X11_swaps_48 ?_
        refine kk_getr e_X11_swaps_49 fl_X11_31 rfl rfl ?_
        refine kk_iload 4 rfl e_X11_swaps_52 ?_
        refine kk_iald e_X11_swaps_54 rfl h.1 ?_
        replace h := h.2
        refine kk_isub e_X11_swaps_55 ?_
        refine kk_iast e_X11_swaps_56 rfl h.1 ?_
        replace h := h.2
        refine kk_tops (fun σ_9 eσ_9 => ?_)
        replace h := h σ_9 eσ_9
        refine kk_iinc (lv' := [(3, .int (v3_1 + (1 : Int32))), (0, .ref (Z.2.1 0)), (1, .int v1), (2, .int v2), (4, .int v4_2)]) e_X11_swaps_57 (j := 3) rfl (ii_1 v3_1) (by decide) rfl ?_
        exact kk_sub [1, 2, 3, 0, 4] rfl (hJ_7 (v3_1 + (1 : Int32)) σ_9 h)
      · intro J_8 hJ_8 h
        refine kk_icmp_eq e_X11_swaps_22 (fun c_11 => ?_) (fun c_11 => ?_)
        · replace h := h.1 c_11
          exact kk_sub [0, 1, 2, 3, 4] rfl (hJ_8 h)
        · replace h := h.2 c_11
          refine kk_aload_n 0 rfl e_X11_swaps_25 ?_
          refine kk_getr e_X11_swaps_26 fl_X11_31 rfl rfl ?_
          refine kk_iload 4 rfl e_X11_swaps_29 ?_
          refine kk_iald e_X11_swaps_31 rfl h.1 ?_
          replace h := h.2
          refine kk_iload_n 2 rfl e_X11_swaps_32 ?_
          refine kk_icmp_eq e_X11_swaps_33 (fun c_10 => ?_) (fun c_10 => ?_)
          · replace h := h.1 c_10
            exact kk_sub [0, 1, 2, 3, 4] rfl (hJ_8 h)
          · replace h := h.2 c_10
            refine kk_goto e_X11_swaps_36 ?_
            exact kk_sub [0, 1, 2, 3, 4] rfl (hJ_7 v3_1 σ_3 h)
theorem e_X11_calmer_0 : kk_d cX11_calmer 0 (.iload_n 1) 1 1 := ⟨by decide +kernel, rfl⟩
theorem e_X11_calmer_1 : kk_d cX11_calmer 1 (.iconst 0) 1 2 := ⟨by decide +kernel, rfl⟩
theorem e_X11_calmer_2 : kk_d cX11_calmer 2 (.iconst 2) 1 3 := ⟨by decide +kernel, rfl⟩
theorem e_X11_calmer_3 : kk_d cX11_calmer 3 (.invokestatic 92) 3 6 := ⟨by decide +kernel, rfl⟩
theorem e_X11_calmer_6 : kk_dj cX11_calmer 6 (.ifCond .ne 5) 3 (5) 9 11 := ⟨by decide +kernel, rfl, by decide⟩
theorem e_X11_calmer_11 : kk_d cX11_calmer 11 (.aload_n 0) 1 12 := ⟨by decide +kernel, rfl⟩
theorem e_X11_calmer_12 : kk_d cX11_calmer 12 (.invokevirtual 311) 3 15 := ⟨by decide +kernel, rfl⟩
theorem e_X11_calmer_15 : kk_d cX11_calmer 15 (.istore_n 2) 1 16 := ⟨by decide +kernel, rfl⟩
theorem e_X11_calmer_16 : kk_d cX11_calmer 16 (.iload_n 2) 1 17 := ⟨by decide +kernel, rfl⟩
theorem e_X11_calmer_17 : kk_d cX11_calmer 17 (.istore_n 3) 1 18 := ⟨by decide +kernel, rfl⟩
theorem e_X11_calmer_18 : kk_d cX11_calmer 18 (.iconst (-1)) 1 19 := ⟨by decide +kernel, rfl⟩
theorem e_X11_calmer_19 : kk_d cX11_calmer 19 (.istore 4) 2 21 := ⟨by decide +kernel, rfl⟩
theorem e_X11_calmer_21 : kk_d cX11_calmer 21 (.iconst (-1)) 1 22 := ⟨by decide +kernel, rfl⟩
theorem e_X11_calmer_22 : kk_d cX11_calmer 22 (.istore 5) 2 24 := ⟨by decide +kernel, rfl⟩
theorem e_X11_calmer_24 : kk_d cX11_calmer 24 (.iconst 0) 1 25 := ⟨by decide +kernel, rfl⟩
theorem e_X11_calmer_25 : kk_d cX11_calmer 25 (.istore 6) 2 27 := ⟨by decide +kernel, rfl⟩
theorem e_X11_calmer_27 : kk_d cX11_calmer 27 (.iload 6) 2 29 := ⟨by decide +kernel, rfl⟩
theorem e_X11_calmer_29 : kk_d cX11_calmer 29 (.aload_n 0) 1 30 := ⟨by decide +kernel, rfl⟩
theorem e_X11_calmer_30 : kk_d cX11_calmer 30 (.invokevirtual 128) 3 33 := ⟨by decide +kernel, rfl⟩
theorem e_X11_calmer_33 : kk_dj cX11_calmer 33 (.if_icmp .gt 84) 3 (84) 36 117 := ⟨by decide +kernel, rfl, by decide⟩
theorem e_X11_calmer_117 : kk_d cX11_calmer 117 (.iload 4) 2 119 := ⟨by decide +kernel, rfl⟩
theorem e_X11_calmer_119 : kk_d cX11_calmer 119 (.iconst (-1)) 1 120 := ⟨by decide +kernel, rfl⟩
theorem e_X11_calmer_120 : kk_dj cX11_calmer 120 (.if_icmp .ne 8) 3 (8) 123 128 := ⟨by decide +kernel, rfl, by decide⟩
theorem e_X11_calmer_150 : kk_d cX11_calmer 150 .ireturn 1 151 := ⟨by decide +kernel, rfl⟩
theorem e_X11_calmer_128 : kk_d cX11_calmer 128 (.iload_n 1) 1 129 := ⟨by decide +kernel, rfl⟩
theorem e_X11_calmer_129 : kk_dj cX11_calmer 129 (.ifCond .ne 9) 3 (9) 132 138 := ⟨by decide +kernel, rfl, by decide⟩
theorem e_X11_calmer_138 : kk_d cX11_calmer 138 (.iload_n 1) 1 139 := ⟨by decide +kernel, rfl⟩
theorem e_X11_calmer_139 : kk_d cX11_calmer 139 (.iconst 1) 1 140 := ⟨by decide +kernel, rfl⟩
theorem e_X11_calmer_140 : kk_dj cX11_calmer 140 (.if_icmp .ne 8) 3 (8) 143 148 := ⟨by decide +kernel, rfl, by decide⟩
theorem e_X11_calmer_148 : kk_d cX11_calmer 148 (.iload 5) 2 150 := ⟨by decide +kernel, rfl⟩
theorem e_X11_calmer_143 : kk_d cX11_calmer 143 (.iload 4) 2 145 := ⟨by decide +kernel, rfl⟩
theorem e_X11_calmer_145 : kk_dj cX11_calmer 145 (.goto 5) 3 (5) 148 150 := ⟨by decide +kernel, rfl, by decide⟩
theorem e_X11_calmer_132 : kk_d cX11_calmer 132 (.iload_n 2) 1 133 := ⟨by decide +kernel, rfl⟩
theorem e_X11_calmer_133 : kk_d cX11_calmer 133 (.iload_n 3) 1 134 := ⟨by decide +kernel, rfl⟩
theorem e_X11_calmer_134 : kk_d cX11_calmer 134 .isub 1 135 := ⟨by decide +kernel, rfl⟩
theorem e_X11_calmer_135 : kk_dj cX11_calmer 135 (.goto 15) 3 (15) 138 150 := ⟨by decide +kernel, rfl, by decide⟩
theorem e_X11_calmer_123 : kk_d cX11_calmer 123 (.bipush (-2)) 2 125 := ⟨by decide +kernel, rfl⟩
theorem e_X11_calmer_125 : kk_dj cX11_calmer 125 (.goto 25) 3 (25) 128 150 := ⟨by decide +kernel, rfl, by decide⟩
theorem e_X11_calmer_36 : kk_d cX11_calmer 36 (.iload 6) 2 38 := ⟨by decide +kernel, rfl⟩
theorem e_X11_calmer_38 : kk_d cX11_calmer 38 (.iconst 1) 1 39 := ⟨by decide +kernel, rfl⟩
theorem e_X11_calmer_39 : kk_d cX11_calmer 39 .iadd 1 40 := ⟨by decide +kernel, rfl⟩
theorem e_X11_calmer_40 : kk_d cX11_calmer 40 (.istore 7) 2 42 := ⟨by decide +kernel, rfl⟩
theorem e_X11_calmer_42 : kk_d cX11_calmer 42 (.iload 7) 2 44 := ⟨by decide +kernel, rfl⟩
theorem e_X11_calmer_44 : kk_d cX11_calmer 44 (.aload_n 0) 1 45 := ⟨by decide +kernel, rfl⟩
theorem e_X11_calmer_45 : kk_d cX11_calmer 45 (.invokevirtual 128) 3 48 := ⟨by decide +kernel, rfl⟩
theorem e_X11_calmer_48 : kk_dj cX11_calmer 48 (.if_icmp .gt 63) 3 (63) 51 111 := ⟨by decide +kernel, rfl, by decide⟩
theorem e_X11_calmer_111 : kk_d cX11_calmer 111 (.iinc 6 1) 3 114 := ⟨by decide +kernel, rfl⟩
theorem e_X11_calmer_114 : kk_dj cX11_calmer 114 (.goto (-87)) 3 (-87) 117 27 := ⟨by decide +kernel, rfl, by decide⟩
theorem e_X11_calmer_51 : kk_d cX11_calmer 51 (.aload_n 0) 1 52 := ⟨by decide +kernel, rfl⟩
theorem e_X11_calmer_52 : kk_d cX11_calmer 52 (.iload 6) 2 54 := ⟨by decide +kernel, rfl⟩
theorem e_X11_calmer_54 : kk_d cX11_calmer 54 (.iload 7) 2 56 := ⟨by decide +kernel, rfl⟩
theorem e_X11_calmer_56 : kk_d cX11_calmer 56 (.invokevirtual 169) 3 59 := ⟨by decide +kernel, rfl⟩
theorem e_X11_calmer_59 : kk_d cX11_calmer 59 (.istore 8) 2 61 := ⟨by decide +kernel, rfl⟩
theorem e_X11_calmer_61 : kk_d cX11_calmer 61 (.aload_n 0) 1 62 := ⟨by decide +kernel, rfl⟩
theorem e_X11_calmer_62 : kk_d cX11_calmer 62 (.invokevirtual 311) 3 65 := ⟨by decide +kernel, rfl⟩
theorem e_X11_calmer_65 : kk_d cX11_calmer 65 (.istore 9) 2 67 := ⟨by decide +kernel, rfl⟩
theorem e_X11_calmer_67 : kk_d cX11_calmer 67 (.iload 8) 2 69 := ⟨by decide +kernel, rfl⟩
theorem e_X11_calmer_69 : kk_d cX11_calmer 69 (.aload_n 0) 1 70 := ⟨by decide +kernel, rfl⟩
theorem e_X11_calmer_70 : kk_d cX11_calmer 70 (.iload 6) 2 72 := ⟨by decide +kernel, rfl⟩
theorem e_X11_calmer_72 : kk_d cX11_calmer 72 (.iload 7) 2 74 := ⟨by decide +kernel, rfl⟩
theorem e_X11_calmer_74 : kk_d cX11_calmer 74 (.invokevirtual 169) 3 77 := ⟨by decide +kernel, rfl⟩
theorem e_X11_calmer_77 : kk_d cX11_calmer 77 .isub 1 78 := ⟨by decide +kernel, rfl⟩
theorem e_X11_calmer_78 : kk_d cX11_calmer 78 (.istore 8) 2 80 := ⟨by decide +kernel, rfl⟩
theorem e_X11_calmer_80 : kk_d cX11_calmer 80 (.iload 8) 2 82 := ⟨by decide +kernel, rfl⟩
theorem e_X11_calmer_82 : kk_dj cX11_calmer 82 (.ifCond .ne 23) 3 (23) 85 105 := ⟨by decide +kernel, rfl, by decide⟩
theorem e_X11_calmer_105 : kk_d cX11_calmer 105 (.iinc 7 1) 3 108 := ⟨by decide +kernel, rfl⟩
theorem e_X11_calmer_108 : kk_dj cX11_calmer 108 (.goto (-66)) 3 (-66) 111 42 := ⟨by decide +kernel, rfl, by decide⟩
theorem e_X11_calmer_85 : kk_d cX11_calmer 85 (.iload 9) 2 87 := ⟨by decide +kernel, rfl⟩
theorem e_X11_calmer_87 : kk_d cX11_calmer 87 (.iload_n 3) 1 88 := ⟨by decide +kernel, rfl⟩
theorem e_X11_calmer_88 : kk_dj cX11_calmer 88 (.if_icmp .lt 6) 3 (6) 91 94 := ⟨by decide +kernel, rfl, by decide⟩
theorem e_X11_calmer_94 : kk_d cX11_calmer 94 (.iload 9) 2 96 := ⟨by decide +kernel, rfl⟩
theorem e_X11_calmer_96 : kk_d cX11_calmer 96 (.istore_n 3) 1 97 := ⟨by decide +kernel, rfl⟩
theorem e_X11_calmer_97 : kk_d cX11_calmer 97 (.iload 6) 2 99 := ⟨by decide +kernel, rfl⟩
theorem e_X11_calmer_99 : kk_d cX11_calmer 99 (.istore 4) 2 101 := ⟨by decide +kernel, rfl⟩
theorem e_X11_calmer_101 : kk_d cX11_calmer 101 (.iload 7) 2 103 := ⟨by decide +kernel, rfl⟩
theorem e_X11_calmer_103 : kk_d cX11_calmer 103 (.istore 5) 2 105 := ⟨by decide +kernel, rfl⟩
theorem e_X11_calmer_91 : kk_dj cX11_calmer 91 (.goto 14) 3 (14) 94 105 := ⟨by decide +kernel, rfl, by decide⟩
theorem e_X11_calmer_9 : kk_d cX11_calmer 9 (.iconst (-1)) 1 10 := ⟨by decide +kernel, rfl⟩
theorem e_X11_calmer_10 : kk_d cX11_calmer 10 .ireturn 1 11 := ⟨by decide +kernel, rfl⟩
set_option maxRecDepth 4000 in
theorem s_X11_calmer (Z : kk_Z) (v1 : Int32) (σ : kk_St) (Q : Int32 → kk_St → Prop) (h : f_X11_calmer v1 σ Q) : kk_M Z sh_M yX11_calmer cX11_calmer 10 (some .int) (kk_R 6) [.ref (Z.2.1 0), .int v1] σ (kk_Qi Z sh_M Q) := by
  unfold f_X11_calmer at h
  refine kk_met (own := RX11) (by decide) rfl (Nat.le_of_ble_eq_true rfl) rfl ?_
  refine kk_iload_n 1 rfl e_X11_calmer_0 ?_
  refine kk_iconst ic_0 e_X11_calmer_1 ?_
  refine kk_iconst ic_2 e_X11_calmer_2 ?_
  refine kk_callSip (As := [.int v1, .int (0 : Int32), .int (2 : Int32)]) (rest := []) e_X11_calmer_3 ml_X11_92 rfl (kk_fitR (by decide) (by decide)) (Nat.le_of_ble_eq_true rfl) rfl (s_X11_in Z v1 (0 : Int32) (2 : Int32) σ _ h) (fun r_1 h => ?_)
  refine kk_if_ne e_X11_calmer_6 (fun c_35 => ?_) (fun c_35 => ?_)
  · replace h := h.1 c_35
    refine kk_aload_n 0 rfl e_X11_calmer_11 ?_
    refine kk_callVip (As := []) (rest := []) e_X11_calmer_12 ml_X11_311 ⟨_, _, _, _, rfl, rfl⟩ rfl (kk_fitR (by decide) (by decide)) (Nat.le_of_ble_eq_true rfl) rfl (s_X11_idleAll Z σ _ h) (fun r_2 h => ?_)
    refine kk_istore_n (lv' := [(2, .int r_2), (0, .ref (Z.2.1 0)), (1, .int v1)]) e_X11_calmer_15 rfl (by decide) rfl ?_
    refine kk_iload_n 0 rfl e_X11_calmer_16 ?_
    refine kk_istore_n (lv' := [(3, .int r_2), (2, .int r_2), (0, .ref (Z.2.1 0)), (1, .int v1)]) e_X11_calmer_17 rfl (by decide) rfl ?_
    refine kk_iconst ic_m1 e_X11_calmer_18 ?_
    refine kk_istore (lv' := [(4, .int (-1 : Int32)), (3, .int r_2), (2, .int r_2), (0, .ref (Z.2.1 0)), (1, .int v1)]) e_X11_calmer_19 (by decide) rfl ?_
    refine kk_iconst ic_m1 e_X11_calmer_21 ?_
    refine kk_istore (lv' := [(5, .int (-1 : Int32)), (4, .int (-1 : Int32)), (3, .int r_2), (2, .int r_2), (0, .ref (Z.2.1 0)), (1, .int v1)]) e_X11_calmer_22 (by decide) rfl ?_
    refine kk_iconst ic_0 e_X11_calmer_24 ?_
    refine kk_istore (lv' := [(6, .int (0 : Int32)), (5, .int (-1 : Int32)), (4, .int (-1 : Int32)), (3, .int r_2), (2, .int r_2), (0, .ref (Z.2.1 0)), (1, .int v1)]) e_X11_calmer_25 (by decide) rfl ?_
    refine kk_sub [5, 6, 4, 3, 2, 1, 0] rfl ?_
    refine kk_lpW5 (P := fun (v3_3 : Int32) (v4_4 : Int32) (v5_5 : Int32) (v6_6 : Int32) (σ_7 : kk_St) => KK Z sh_M RX11 cX11_calmer 10 (some .int) (kk_R 6) (kk_Qi Z sh_M Q) 27 [(0, .ref (Z.2.1 0)), (1, .int v1), (2, .int r_2), (3, .int v3_3), (4, .int v4_4), (5, .int v5_5), (6, .int v6_6)] [] σ_7) ?_ h
    intro rec_8 hrec_8 v3_3 v4_4 v5_5 v6_6 σ_7 h
    refine kk_iload 6 rfl e_X11_calmer_27 ?_
    refine kk_aload_n 0 rfl e_X11_calmer_29 ?_
    refine kk_callVip (As := []) (rest := [.int v6_6]) e_X11_calmer_30 ml_X11_128 ⟨_, _, _, _, rfl, rfl⟩ rfl (kk_fitR (by decide) (by decide)) (Nat.le_of_ble_eq_true rfl) rfl (s_X11_degree Z σ_7 _ h) (fun r_9 h => ?_)
    refine kk_icmp_gt e_X11_calmer_33 (fun c_34 => ?_) (fun c_34 => ?_)
    · replace h := h.1 c_34
      refine kk_iload 4 rfl e_X11_calmer_117 ?_
      refine kk_iconst ic_m1 e_X11_calmer_119 ?_
      refine kk_jW1 (P := fun (t_10 : Int32) => KK Z sh_M RX11 cX11_calmer 10 (some .int) (kk_R 6) (kk_Qi Z sh_M Q) 150 [] [.int t_10] σ_7) h ?_ ?_
      · intro t_10 h
        exact kk_iret e_X11_calmer_150 h
      · intro J_11 hJ_11 h
        refine kk_icmp_ne e_X11_calmer_120 (fun c_14 => ?_) (fun c_14 => ?_)
        · replace h := h.1 c_14
          refine kk_iload_n 1 rfl e_X11_calmer_128 ?_
          refine kk_if_ne e_X11_calmer_129 (fun c_13 => ?_) (fun c_13 => ?_)
          · replace h := h.1 c_13
            refine kk_iload_n 1 rfl e_X11_calmer_138 ?_
            refine kk_iconst ic_1 e_X11_calmer_139 ?_
            refine kk_icmp_ne e_X11_calmer_140 (fun c_12 => ?_) (fun c_12 => ?_)
            · replace h := h.1 c_12
              refine kk_iload 5 rfl e_X11_calmer_148 ?_
              exact kk_sub [] rfl (hJ_11 v5_5 h)
            · replace h := h.2 c_12
              refine kk_iload 4 rfl e_X11_calmer_143 ?_
              refine kk_goto e_X11_calmer_145 ?_
              exact kk_sub [] rfl (hJ_11 v4_4 h)
          · replace h := h.2 c_13
            refine kk_iload_n 2 rfl e_X11_calmer_132 ?_
            refine kk_iload_n 3 rfl e_X11_calmer_133 ?_
            refine kk_isub e_X11_calmer_134 ?_
            refine kk_goto e_X11_calmer_135 ?_
            exact kk_sub [] rfl (hJ_11 (r_2 - v3_3) h)
        · replace h := h.2 c_14
          refine kk_bipush bp_m2 e_X11_calmer_123 ?_
          refine kk_goto e_X11_calmer_125 ?_
          exact kk_sub [] rfl (hJ_11 (-2 : Int32) h)
    · replace h := h.2 c_34
      refine kk_iload 6 rfl e_X11_calmer_36 ?_
      refine kk_iconst ic_1 e_X11_calmer_38 ?_
      refine kk_iadd e_X11_calmer_39 ?_
      refine kk_istore (lv' := [(7, .int (v6_6 + (1 : Int32))), (0, .ref (Z.2.1 0)), (1, .int v1), (2, .int r_2), (3, .int v3_3), (4, .int v4_4), (5, .int v5_5), (6, .int v6_6)]) e_X11_calmer_40 (by decide) rfl ?_
      refine kk_sub [1, 2, 3, 4, 5, 6, 7, 0] rfl ?_
      refine kk_lpW5 (P := fun (v3_15 : Int32) (v4_16 : Int32) (v5_17 : Int32) (v7_18 : Int32) (σ_19 : kk_St) => KK Z sh_M RX11 cX11_calmer 10 (some .int) (kk_R 6) (kk_Qi Z sh_M Q) 42 [(0, .ref (Z.2.1 0)), (1, .int v1), (2, .int r_2), (3, .int v3_15), (4, .int v4_16), (5, .int v5_17), (6, .int v6_6), (7, .int v7_18)] [] σ_19) ?_ h
      intro rec_20 hrec_20 v3_15 v4_16 v5_17 v7_18 σ_19 h
      refine kk_iload 7 rfl e_X11_calmer_42 ?_
      refine kk_aload_n 0 rfl e_X11_calmer_44 ?_
      refine kk_callVip (As := []) (rest := [.int v7_18]) e_X11_calmer_45 ml_X11_128 ⟨_, _, _, _, rfl, rfl⟩ rfl (kk_fitR (by decide) (by decide)) (Nat.le_of_ble_eq_true rfl) rfl (s_X11_degree Z σ_19 _ h) (fun r_21 h => ?_)
      refine kk_icmp_gt e_X11_calmer_48 (fun c_33 => ?_) (fun c_33 => ?_)
      · replace h := h.1 c_33
        refine kk_iinc (lv' := [(6, .int (v6_6 + (1 : Int32))), (0, .ref (Z.2.1 0)), (1, .int v1), (2, .int r_2), (3, .int v3_15), (4, .int v4_16), (5, .int v5_17), (7, .int v7_18)]) e_X11_calmer_111 (j := 6) rfl (ii_1 v6_6) (by decide) rfl ?_
        refine kk_goto e_X11_calmer_114 ?_
        exact kk_sub [1, 2, 3, 4, 5, 6, 0] rfl (hrec_8 v3_15 v4_16 v5_17 (v6_6 + (1 : Int32)) σ_19 h)
      · replace h := h.2 c_33
        refine kk_aload_n 0 rfl e_X11_calmer_51 ?_
        refine kk_iload 6 rfl e_X11_calmer_52 ?_
        refine kk_iload 7 rfl e_X11_calmer_54 ?_
        refine kk_callVi (As := [.int v6_6, .int v7_18]) (rest := []) e_X11_calmer_56 ml_X11_169 ⟨_, _, _, _, rfl, rfl⟩ rfl (kk_fitR (by decide) (by decide)) (Nat.le_of_ble_eq_true rfl) rfl (s_X11_swaps Z v6_6 v7_18 σ_19 _ h) (fun r_22 σ_23 h => ?_)
        refine kk_istore (lv' := [(8, .int r_22), (0, .ref (Z.2.1 0)), (1, .int v1), (2, .int r_2), (3, .int v3_15), (4, .int v4_16), (5, .int v5_17), (6, .int v6_6), (7, .int v7_18)]) e_X11_calmer_59 (by decide) rfl ?_
        refine kk_aload_n 1 rfl e_X11_calmer_61 ?_
        refine kk_callVip (As := []) (rest := []) e_X11_calmer_62 ml_X11_311 ⟨_, _, _, _, rfl, rfl⟩ rfl (kk_fitR (by decide) (by decide)) (Nat.le_of_ble_eq_true rfl) rfl (s_X11_idleAll Z σ_23 _ h) (fun r_24 h => ?_)
        refine kk_istore (lv' := [(9, .int r_24), (8, .int r_22), (0, .ref (Z.2.1 0)), (1, .int v1), (2, .int r_2), (3, .int v3_15), (4, .int v4_16), (5, .int v5_17), (6, .int v6_6), (7, .int v7_18)]) e_X11_calmer_65 (by decide) rfl ?_
        refine kk_iload 1 rfl e_X11_calmer_67 ?_
        refine kk_aload_n 2 rfl e_X11_calmer_69 ?_
        refine kk_iload 8 rfl e_X11_calmer_70 ?_
        refine kk_iload 9 rfl e_X11_calmer_72 ?_
        refine kk_callVi (As := [.int v6_6, .int v7_18]) (rest := [.int r_22]) e_X11_calmer_74 ml_X11_169 ⟨_, _, _, _, rfl, rfl⟩ rfl (kk_fitR (by decide) (by decide)) (Nat.le_of_ble_eq_true rfl) rfl (s_X11_swaps Z v6_6 v7_18 σ_23 _ h) (fun r_25 σ_26 h => ?_)
        refine kk_isub e_X11_calmer_77 ?_
        refine kk_istore (lv' := [(8, .int (r_22 - r_25)), (9, .int r_24), (0, .ref (Z.2.1 0)), (1, .int v1), (2, .int r_2), (3, .int v3_15), (4, .int v4_16), (5, .int v5_17), (6, .int v6_6), (7, .int v7_18)]) e_X11_calmer_78 (by decide) rfl ?_
        refine kk_iload 0 rfl e_X11_calmer_80 ?_
        refine kk_jW3 (P := fun (v3_27 : Int32) (v4_28 : Int32) (v5_29 : Int32) => KK Z sh_M RX11 cX11_calmer 10 (some .int) (kk_R 6) (kk_Qi Z sh_M Q) 105 [(0, .ref (Z.2.1 0)), (1, .int v1), (2, .int r_2), (3, .int v3_27), (4, .int v4_28), (5, .int v5_29), (6, .int v6_6), (7, .int v7_18)] [] σ_26) h ?_ ?_
        · intro v3_27 v4_28 v5_29 h
          refine kk_iinc (lv' := [(7, .int (v7_18 + (1 : Int32))), (0, .ref (Z.2.1 0)), (1, .int v1), (2, .int r_2), (3, .int v3_27), (4, .int v4_28), (5, .int v5_29), (6, .int v6_6)]) e_X11_calmer_105 (j := 7) rfl (ii_1 v7_18) (by decide) rfl ?_
          refine kk_goto e_X11_calmer_108 ?_
          exact kk_sub [1, 2, 3, 4, 5, 6, 7, 0] rfl (hrec_20 v3_27 v4_28 v5_29 (v7_18 + (1 : Int32)) σ_26 h)
        · intro J_30 hJ_30 h
          refine kk_if_ne e_X11_calmer_82 (fun c_32 => ?_) (fun c_32 => ?_)
          · replace h := h.1 c_32
            exact kk_sub [2, 3, 4, 5, 6, 7, 8, 9] rfl (hJ_30 v3_15 v4_16 v5_17 h)
          · replace h := h.2 c_32
            refine kk_iload 1 rfl e_X11_calmer_85 ?_
            refine kk_iload_n 5 rfl e_X11_calmer_87 ?_
            refine kk_icmp_lt e_X11_calmer_88 (fun c_31 => ?_) (fun c_31 => ?_)
            · replace h := h.1 c_31
              refine kk_iload 1 rfl e_X11_calmer_94 ?_
              refine kk_istore_n (lv' := [(3, .int r_24), (8, .int (r_22 - r_25)), (9, .int r_24), (0, .ref (Z.2.1 0)), (1, .int v1), (2, .int r_2), (4, .int v4_16), (5, .int v5_17), (6, .int v6_6), (7, .int v7_18)]) e_X11_calmer_96 rfl (by decide) rfl ?_
              refine kk_iload 8 rfl e_X11_calmer_97 ?_
              refine kk_istore (lv' := [(4, .int v6_6), (3, .int r_24), (8, .int (r_22 - r_25)), (9, .int r_24), (0, .ref (Z.2.1 0)), (1, .int v1), (2, .int r_2), (5, .int v5_17), (6, .int v6_6), (7, .int v7_18)]) e_X11_calmer_99 (by decide) rfl ?_
              refine kk_iload 9 rfl e_X11_calmer_101 ?_
              refine kk_istore (lv' := [(5, .int v7_18), (4, .int v6_6), (3, .int r_24), (8, .int (r_22 - r_25)), (9, .int r_24), (0, .ref (Z.2.1 0)), (1, .int v1), (2, .int r_2), (6, .int v6_6), (7, .int v7_18)]) e_X11_calmer_103 (by decide) rfl ?_
              exact kk_sub [5, 6, 7, 2, 1, 0, 8, 9] rfl (hJ_30 r_24 v6_6 v7_18 h)
            · replace h := h.2 c_31
              refine kk_goto e_X11_calmer_91 ?_
              exact kk_sub [2, 3, 4, 5, 6, 7, 8, 9] rfl (hJ_30 v3_15 v4_16 v5_17 h)
  · replace h := h.2 c_35
    refine kk_iconst ic_m1 e_X11_calmer_9 ?_
    exact kk_iret e_X11_calmer_10 h
theorem e_X11_waysOf_0 : kk_d cX11_waysOf 0 (.aload_n 0) 1 1 := ⟨by decide +kernel, rfl⟩
theorem e_X11_waysOf_1 : kk_d cX11_waysOf 1 (.getfield 52) 3 4 := ⟨by decide +kernel, rfl⟩
theorem e_X11_waysOf_4 : kk_d cX11_waysOf 4 (.iload_n 1) 1 5 := ⟨by decide +kernel, rfl⟩
theorem e_X11_waysOf_5 : kk_d cX11_waysOf 5 .iaload 1 6 := ⟨by decide +kernel, rfl⟩
theorem e_X11_waysOf_6 : kk_d cX11_waysOf 6 (.aload_n 0) 1 7 := ⟨by decide +kernel, rfl⟩
theorem e_X11_waysOf_7 : kk_d cX11_waysOf 7 (.getfield 58) 3 10 := ⟨by decide +kernel, rfl⟩
theorem e_X11_waysOf_10 : kk_d cX11_waysOf 10 (.aload_n 0) 1 11 := ⟨by decide +kernel, rfl⟩
theorem e_X11_waysOf_11 : kk_d cX11_waysOf 11 (.getfield 24) 3 14 := ⟨by decide +kernel, rfl⟩
theorem e_X11_waysOf_14 : kk_d cX11_waysOf 14 (.iload_n 1) 1 15 := ⟨by decide +kernel, rfl⟩
theorem e_X11_waysOf_15 : kk_d cX11_waysOf 15 .iaload 1 16 := ⟨by decide +kernel, rfl⟩
theorem e_X11_waysOf_16 : kk_d cX11_waysOf 16 .iaload 1 17 := ⟨by decide +kernel, rfl⟩
theorem e_X11_waysOf_17 : kk_d cX11_waysOf 17 (.iconst (-1)) 1 18 := ⟨by decide +kernel, rfl⟩
theorem e_X11_waysOf_18 : kk_d cX11_waysOf 18 .ixor 1 19 := ⟨by decide +kernel, rfl⟩
theorem e_X11_waysOf_19 : kk_d cX11_waysOf 19 .iand 1 20 := ⟨by decide +kernel, rfl⟩
theorem e_X11_waysOf_20 : kk_d cX11_waysOf 20 (.aload_n 0) 1 21 := ⟨by decide +kernel, rfl⟩
theorem e_X11_waysOf_21 : kk_d cX11_waysOf 21 (.getfield 58) 3 24 := ⟨by decide +kernel, rfl⟩
theorem e_X11_waysOf_24 : kk_d cX11_waysOf 24 (.aload_n 0) 1 25 := ⟨by decide +kernel, rfl⟩
theorem e_X11_waysOf_25 : kk_d cX11_waysOf 25 (.getfield 28) 3 28 := ⟨by decide +kernel, rfl⟩
theorem e_X11_waysOf_28 : kk_d cX11_waysOf 28 (.iload_n 1) 1 29 := ⟨by decide +kernel, rfl⟩
theorem e_X11_waysOf_29 : kk_d cX11_waysOf 29 .iaload 1 30 := ⟨by decide +kernel, rfl⟩
theorem e_X11_waysOf_30 : kk_d cX11_waysOf 30 .iaload 1 31 := ⟨by decide +kernel, rfl⟩
theorem e_X11_waysOf_31 : kk_d cX11_waysOf 31 (.iconst (-1)) 1 32 := ⟨by decide +kernel, rfl⟩
theorem e_X11_waysOf_32 : kk_d cX11_waysOf 32 .ixor 1 33 := ⟨by decide +kernel, rfl⟩
theorem e_X11_waysOf_33 : kk_d cX11_waysOf 33 .iand 1 34 := ⟨by decide +kernel, rfl⟩
theorem e_X11_waysOf_34 : kk_d cX11_waysOf 34 .ireturn 1 35 := ⟨by decide +kernel, rfl⟩
set_option maxRecDepth 4000 in
theorem s_X11_waysOf (Z : kk_Z) (v1 : Int32) (σ : kk_St) (Q : Int32 → Prop) (h : f_X11_waysOf v1 σ Q) : kk_M Z sh_M yX11_waysOf cX11_waysOf 2 (some .int) (kk_R 2) [.ref (Z.2.1 0), .int v1] σ (kk_Qi Z sh_M (fun r σ' => σ' = σ ∧ Q r)) := by
  unfold f_X11_waysOf at h
  refine kk_met (own := RX11) (by decide) rfl (Nat.le_of_ble_eq_true rfl) rfl ?_
  refine kk_aload_n 0 rfl e_X11_waysOf_0 ?_
  refine kk_getr e_X11_waysOf_1 fl_X11_52 rfl rfl ?_
  refine kk_iload_n 1 rfl e_X11_waysOf_4 ?_
  refine kk_iald e_X11_waysOf_5 rfl h.1 ?_
  replace h := h.2
  refine kk_aload_n 0 rfl e_X11_waysOf_6 ?_
  refine kk_getr e_X11_waysOf_7 fl_X11_58 rfl rfl ?_
  refine kk_aload_n 0 rfl e_X11_waysOf_10 ?_
  refine kk_getr e_X11_waysOf_11 fl_X11_24 rfl rfl ?_
  refine kk_iload_n 1 rfl e_X11_waysOf_14 ?_
  refine kk_iald e_X11_waysOf_15 rfl h.1 ?_
  replace h := h.2
  refine kk_iald e_X11_waysOf_16 rfl h.1 ?_
  replace h := h.2
  refine kk_iconst ic_m1 e_X11_waysOf_17 ?_
  refine kk_ixor e_X11_waysOf_18 ?_
  refine kk_iand e_X11_waysOf_19 ?_
  refine kk_aload_n 0 rfl e_X11_waysOf_20 ?_
  refine kk_getr e_X11_waysOf_21 fl_X11_58 rfl rfl ?_
  refine kk_aload_n 0 rfl e_X11_waysOf_24 ?_
  refine kk_getr e_X11_waysOf_25 fl_X11_28 rfl rfl ?_
  refine kk_iload_n 1 rfl e_X11_waysOf_28 ?_
  refine kk_iald e_X11_waysOf_29 rfl h.1 ?_
  replace h := h.2
  refine kk_iald e_X11_waysOf_30 rfl h.1 ?_
  replace h := h.2
  refine kk_iconst ic_m1 e_X11_waysOf_31 ?_
  refine kk_ixor e_X11_waysOf_32 ?_
  refine kk_iand e_X11_waysOf_33 ?_
  exact kk_iret e_X11_waysOf_34 ⟨rfl, h⟩
theorem e_X11_canBeAt_0 : kk_d cX11_canBeAt 0 (.iconst 0) 1 1 := ⟨by decide +kernel, rfl⟩
theorem e_X11_canBeAt_1 : kk_d cX11_canBeAt 1 (.istore_n 3) 1 2 := ⟨by decide +kernel, rfl⟩
theorem e_X11_canBeAt_2 : kk_d cX11_canBeAt 2 (.iconst 0) 1 3 := ⟨by decide +kernel, rfl⟩
theorem e_X11_canBeAt_3 : kk_d cX11_canBeAt 3 (.istore 4) 2 5 := ⟨by decide +kernel, rfl⟩
theorem e_X11_canBeAt_5 : kk_d cX11_canBeAt 5 (.iconst 0) 1 6 := ⟨by decide +kernel, rfl⟩
theorem e_X11_canBeAt_6 : kk_d cX11_canBeAt 6 (.istore 5) 2 8 := ⟨by decide +kernel, rfl⟩
theorem e_X11_canBeAt_8 : kk_d cX11_canBeAt 8 (.iload 5) 2 10 := ⟨by decide +kernel, rfl⟩
theorem e_X11_canBeAt_10 : kk_d cX11_canBeAt 10 (.aload_n 0) 1 11 := ⟨by decide +kernel, rfl⟩
theorem e_X11_canBeAt_11 : kk_d cX11_canBeAt 11 (.getfield 96) 3 14 := ⟨by decide +kernel, rfl⟩
theorem e_X11_canBeAt_14 : kk_dj cX11_canBeAt 14 (.if_icmp .ge 55) 3 (55) 17 69 := ⟨by decide +kernel, rfl, by decide⟩
theorem e_X11_canBeAt_69 : kk_d cX11_canBeAt 69 (.iload 4) 2 71 := ⟨by decide +kernel, rfl⟩
theorem e_X11_canBeAt_71 : kk_d cX11_canBeAt 71 (.invokestatic 160) 3 74 := ⟨by decide +kernel, rfl⟩
theorem e_X11_canBeAt_74 : kk_d cX11_canBeAt 74 (.iload_n 3) 1 75 := ⟨by decide +kernel, rfl⟩
theorem e_X11_canBeAt_75 : kk_dj cX11_canBeAt 75 (.if_icmp .lt 7) 3 (7) 78 82 := ⟨by decide +kernel, rfl, by decide⟩
theorem e_X11_canBeAt_83 : kk_d cX11_canBeAt 83 .ireturn 1 84 := ⟨by decide +kernel, rfl⟩
theorem e_X11_canBeAt_82 : kk_d cX11_canBeAt 82 (.iconst 0) 1 83 := ⟨by decide +kernel, rfl⟩
theorem e_X11_canBeAt_78 : kk_d cX11_canBeAt 78 (.iconst 1) 1 79 := ⟨by decide +kernel, rfl⟩
theorem e_X11_canBeAt_79 : kk_dj cX11_canBeAt 79 (.goto 4) 3 (4) 82 83 := ⟨by decide +kernel, rfl, by decide⟩
theorem e_X11_canBeAt_17 : kk_d cX11_canBeAt 17 (.iload_n 2) 1 18 := ⟨by decide +kernel, rfl⟩
theorem e_X11_canBeAt_18 : kk_d cX11_canBeAt 18 (.iload 5) 2 20 := ⟨by decide +kernel, rfl⟩
theorem e_X11_canBeAt_20 : kk_d cX11_canBeAt 20 (.invokestatic 11) 3 23 := ⟨by decide +kernel, rfl⟩
theorem e_X11_canBeAt_23 : kk_dj cX11_canBeAt 23 (.ifCond .eq 40) 3 (40) 26 63 := ⟨by decide +kernel, rfl, by decide⟩
theorem e_X11_canBeAt_63 : kk_d cX11_canBeAt 63 (.iinc 5 1) 3 66 := ⟨by decide +kernel, rfl⟩
theorem e_X11_canBeAt_66 : kk_dj cX11_canBeAt 66 (.goto (-58)) 3 (-58) 69 8 := ⟨by decide +kernel, rfl, by decide⟩
theorem e_X11_canBeAt_26 : kk_d cX11_canBeAt 26 (.aload_n 0) 1 27 := ⟨by decide +kernel, rfl⟩
theorem e_X11_canBeAt_27 : kk_d cX11_canBeAt 27 (.getfield 55) 3 30 := ⟨by decide +kernel, rfl⟩
theorem e_X11_canBeAt_30 : kk_d cX11_canBeAt 30 (.iload 5) 2 32 := ⟨by decide +kernel, rfl⟩
theorem e_X11_canBeAt_32 : kk_d cX11_canBeAt 32 .iaload 1 33 := ⟨by decide +kernel, rfl⟩
theorem e_X11_canBeAt_33 : kk_dj cX11_canBeAt 33 (.ifCond .ge 30) 3 (30) 36 63 := ⟨by decide +kernel, rfl, by decide⟩
theorem e_X11_canBeAt_36 : kk_d cX11_canBeAt 36 (.aload_n 0) 1 37 := ⟨by decide +kernel, rfl⟩
theorem e_X11_canBeAt_37 : kk_d cX11_canBeAt 37 (.iload 5) 2 39 := ⟨by decide +kernel, rfl⟩
theorem e_X11_canBeAt_39 : kk_d cX11_canBeAt 39 (.iload_n 1) 1 40 := ⟨by decide +kernel, rfl⟩
theorem e_X11_canBeAt_40 : kk_d cX11_canBeAt 40 (.invokevirtual 114) 3 43 := ⟨by decide +kernel, rfl⟩
theorem e_X11_canBeAt_43 : kk_dj cX11_canBeAt 43 (.ifCond .ne 6) 3 (6) 46 49 := ⟨by decide +kernel, rfl, by decide⟩
theorem e_X11_canBeAt_49 : kk_d cX11_canBeAt 49 (.iinc 3 1) 3 52 := ⟨by decide +kernel, rfl⟩
theorem e_X11_canBeAt_52 : kk_d cX11_canBeAt 52 (.iload 4) 2 54 := ⟨by decide +kernel, rfl⟩
theorem e_X11_canBeAt_54 : kk_d cX11_canBeAt 54 (.aload_n 0) 1 55 := ⟨by decide +kernel, rfl⟩
theorem e_X11_canBeAt_55 : kk_d cX11_canBeAt 55 (.iload 5) 2 57 := ⟨by decide +kernel, rfl⟩
theorem e_X11_canBeAt_57 : kk_d cX11_canBeAt 57 (.invokevirtual 207) 3 60 := ⟨by decide +kernel, rfl⟩
theorem e_X11_canBeAt_60 : kk_d cX11_canBeAt 60 .ior 1 61 := ⟨by decide +kernel, rfl⟩
theorem e_X11_canBeAt_61 : kk_d cX11_canBeAt 61 (.istore 4) 2 63 := ⟨by decide +kernel, rfl⟩
theorem e_X11_canBeAt_46 : kk_dj cX11_canBeAt 46 (.goto 17) 3 (17) 49 63 := ⟨by decide +kernel, rfl, by decide⟩
set_option maxRecDepth 4000 in
theorem s_X11_canBeAt (Z : kk_Z) (v1 : Int32) (v2 : Int32) (σ : kk_St) (Q : Int32 → Prop) (h : f_X11_canBeAt v1 v2 σ Q) : kk_M Z sh_M yX11_canBeAt cX11_canBeAt 6 (some .boolean) (kk_R 3) [.ref (Z.2.1 0), .int v1, .int v2] σ (kk_Qi Z sh_M (fun r σ' => σ' = σ ∧ Q r)) := by
  unfold f_X11_canBeAt at h
  refine kk_met (own := RX11) (by decide) rfl (Nat.le_of_ble_eq_true rfl) rfl ?_
  refine kk_iconst ic_0 e_X11_canBeAt_0 ?_
  refine kk_istore_n (lv' := [(3, .int (0 : Int32)), (0, .ref (Z.2.1 0)), (1, .int v1), (2, .int v2)]) e_X11_canBeAt_1 rfl (by decide) rfl ?_
  refine kk_iconst ic_0 e_X11_canBeAt_2 ?_
  refine kk_istore (lv' := [(4, .int (0 : Int32)), (3, .int (0 : Int32)), (0, .ref (Z.2.1 0)), (1, .int v1), (2, .int v2)]) e_X11_canBeAt_3 (by decide) rfl ?_
  refine kk_iconst ic_0 e_X11_canBeAt_5 ?_
  refine kk_istore (lv' := [(5, .int (0 : Int32)), (4, .int (0 : Int32)), (3, .int (0 : Int32)), (0, .ref (Z.2.1 0)), (1, .int v1), (2, .int v2)]) e_X11_canBeAt_6 (by decide) rfl ?_
  refine kk_sub [3, 4, 5, 2, 1, 0] rfl ?_
  refine kk_lpW3 (P := fun (v3_1 : Int32) (v4_2 : Int32) (v5_3 : Int32) => KK Z sh_M RX11 cX11_canBeAt 6 (some .boolean) (kk_R 3) (kk_Qi Z sh_M (fun r σ' => σ' = σ ∧ Q r)) 8 [(0, .ref (Z.2.1 0)), (1, .int v1), (2, .int v2), (3, .int v3_1), (4, .int v4_2), (5, .int v5_3)] [] σ) ?_ h
  intro rec_4 hrec_4 v3_1 v4_2 v5_3 h
  refine kk_iload 5 rfl e_X11_canBeAt_8 ?_
  refine kk_aload_n 0 rfl e_X11_canBeAt_10 ?_
  refine kk_geti e_X11_canBeAt_11 fl_X11_96 rfl rfl ?_
  refine kk_icmp_ge e_X11_canBeAt_14 (fun c_18 => ?_) (fun c_18 => ?_)
  · replace h := h.1 c_18
    refine kk_iload 4 rfl e_X11_canBeAt_69 ?_
    refine kk_callSip (As := [.int v4_2]) (rest := []) e_X11_canBeAt_71 ml_X11_160 rfl (kk_fitR (by decide) (by decide)) (Nat.le_of_ble_eq_true rfl) rfl (s_X11_bitsOf Z v4_2 σ _ h) (fun r_5 h => ?_)
    refine kk_iload_n 3 rfl e_X11_canBeAt_74 ?_
    refine kk_jW1 (P := fun (t_6 : Int32) => KK Z sh_M RX11 cX11_canBeAt 6 (some .boolean) (kk_R 3) (kk_Qi Z sh_M (fun r σ' => σ' = σ ∧ Q r)) 83 [] [.int t_6] σ) h ?_ ?_
    · intro t_6 h
      exact kk_zret e_X11_canBeAt_83 h.1 ⟨rfl, h.2⟩
    · intro J_7 hJ_7 h
      refine kk_icmp_lt e_X11_canBeAt_75 (fun c_8 => ?_) (fun c_8 => ?_)
      · replace h := h.1 c_8
        refine kk_iconst ic_0 e_X11_canBeAt_82 ?_
        exact kk_sub [] rfl (hJ_7 (0 : Int32) h)
      · replace h := h.2 c_8
        refine kk_iconst ic_1 e_X11_canBeAt_78 ?_
        refine kk_goto e_X11_canBeAt_79 ?_
        exact kk_sub [] rfl (hJ_7 (1 : Int32) h)
  · replace h := h.2 c_18
    refine kk_iload_n 2 rfl e_X11_canBeAt_17 ?_
    refine kk_iload 5 rfl e_X11_canBeAt_18 ?_
    refine kk_callSip (As := [.int v2, .int v5_3]) (rest := []) e_X11_canBeAt_20 ml_X11_11 rfl (kk_fitR (by decide) (by decide)) (Nat.le_of_ble_eq_true rfl) rfl (s_X11_has Z v2 v5_3 σ _ h) (fun r_9 h => ?_)
    refine kk_jW2 (P := fun (v3_10 : Int32) (v4_11 : Int32) => KK Z sh_M RX11 cX11_canBeAt 6 (some .boolean) (kk_R 3) (kk_Qi Z sh_M (fun r σ' => σ' = σ ∧ Q r)) 63 [(0, .ref (Z.2.1 0)), (1, .int v1), (2, .int v2), (3, .int v3_10), (4, .int v4_11), (5, .int v5_3)] [] σ) h ?_ ?_
    · intro v3_10 v4_11 h
      refine kk_iinc (lv' := [(5, .int (v5_3 + (1 : Int32))), (0, .ref (Z.2.1 0)), (1, .int v1), (2, .int v2), (3, .int v3_10), (4, .int v4_11)]) e_X11_canBeAt_63 (j := 5) rfl (ii_1 v5_3) (by decide) rfl ?_
      refine kk_goto e_X11_canBeAt_66 ?_
      exact kk_sub [1, 2, 3, 4, 5, 0] rfl (hrec_4 v3_10 v4_11 (v5_3 + (1 : Int32)) h)
    · intro J_12 hJ_12 h
      refine kk_if_eq e_X11_canBeAt_23 (fun c_17 => ?_) (fun c_17 => ?_)
      · replace h := h.1 c_17
        exact kk_sub [0, 1, 2, 3, 4, 5] rfl (hJ_12 v3_1 v4_2 h)
      · replace h := h.2 c_17
        refine kk_aload_n 0 rfl e_X11_canBeAt_26 ?_
        refine kk_getr e_X11_canBeAt_27 fl_X11_55 rfl rfl ?_
        refine kk_iload 5 rfl e_X11_canBeAt_30 ?_
        refine kk_iald e_X11_canBeAt_32 rfl h.1 ?_
        replace h := h.2
        refine kk_if_ge e_X11_canBeAt_33 (fun c_16 => ?_) (fun c_16 => ?_)
        · replace h := h.1 c_16
          exact kk_sub [0, 1, 2, 3, 4, 5] rfl (hJ_12 v3_1 v4_2 h)
        · replace h := h.2 c_16
          refine kk_aload_n 0 rfl e_X11_canBeAt_36 ?_
          refine kk_iload 5 rfl e_X11_canBeAt_37 ?_
          refine kk_iload_n 1 rfl e_X11_canBeAt_39 ?_
          refine kk_callVip (As := [.int v5_3, .int v1]) (rest := []) e_X11_canBeAt_40 ml_X11_114 ⟨_, _, _, _, rfl, rfl⟩ rfl (kk_fitR (by decide) (by decide)) (Nat.le_of_ble_eq_true rfl) rfl (s_X11_isAt Z v5_3 v1 σ _ h) (fun r_13 h => ?_)
          refine kk_if_ne e_X11_canBeAt_43 (fun c_15 => ?_) (fun c_15 => ?_)
          · replace h := h.1 c_15
            refine kk_iinc (lv' := [(3, .int (v3_1 + (1 : Int32))), (0, .ref (Z.2.1 0)), (1, .int v1), (2, .int v2), (4, .int v4_2), (5, .int v5_3)]) e_X11_canBeAt_49 (j := 3) rfl (ii_1 v3_1) (by decide) rfl ?_
            refine kk_iload 4 rfl e_X11_canBeAt_52 ?_
            refine kk_aload_n 1 rfl e_X11_canBeAt_54 ?_
            refine kk_iload 5 rfl e_X11_canBeAt_55 ?_
            refine kk_callVip (As := [.int v5_3]) (rest := [.int v4_2]) e_X11_canBeAt_57 ml_X11_207 ⟨_, _, _, _, rfl, rfl⟩ rfl (kk_fitR (by decide) (by decide)) (Nat.le_of_ble_eq_true rfl) rfl (s_X11_waysOf Z v5_3 σ _ h) (fun r_14 h => ?_)
            refine kk_ior e_X11_canBeAt_60 ?_
            refine kk_istore (lv' := [(4, .int (v4_2 ||| r_14)), (3, .int (v3_1 + (1 : Int32))), (0, .ref (Z.2.1 0)), (1, .int v1), (2, .int v2), (5, .int v5_3)]) e_X11_canBeAt_61 (by decide) rfl ?_
            exact kk_sub [2, 3, 4, 1, 0, 5] rfl (hJ_12 (v3_1 + (1 : Int32)) (v4_2 ||| r_14) h)
          · replace h := h.2 c_15
            refine kk_goto e_X11_canBeAt_46 ?_
            exact kk_sub [0, 1, 2, 3, 4, 5] rfl (hJ_12 v3_1 v4_2 h)
theorem e_X11_canBeEnough_0 : kk_d cX11_canBeEnough 0 (.iconst 0) 1 1 := ⟨by decide +kernel, rfl⟩
theorem e_X11_canBeEnough_1 : kk_d cX11_canBeEnough 1 (.istore_n 2) 1 2 := ⟨by decide +kernel, rfl⟩
theorem e_X11_canBeEnough_2 : kk_d cX11_canBeEnough 2 (.iload_n 2) 1 3 := ⟨by decide +kernel, rfl⟩
theorem e_X11_canBeEnough_3 : kk_d cX11_canBeEnough 3 (.aload_n 0) 1 4 := ⟨by decide +kernel, rfl⟩
theorem e_X11_canBeEnough_4 : kk_d cX11_canBeEnough 4 (.getfield 21) 3 7 := ⟨by decide +kernel, rfl⟩
theorem e_X11_canBeEnough_7 : kk_dj cX11_canBeEnough 7 (.if_icmp .ge 20) 3 (20) 10 27 := ⟨by decide +kernel, rfl, by decide⟩
theorem e_X11_canBeEnough_27 : kk_d cX11_canBeEnough 27 (.iconst 0) 1 28 := ⟨by decide +kernel, rfl⟩
theorem e_X11_canBeEnough_28 : kk_d cX11_canBeEnough 28 (.istore_n 2) 1 29 := ⟨by decide +kernel, rfl⟩
theorem e_X11_canBeEnough_29 : kk_d cX11_canBeEnough 29 (.iload_n 2) 1 30 := ⟨by decide +kernel, rfl⟩
theorem e_X11_canBeEnough_30 : kk_d cX11_canBeEnough 30 (.aload_n 0) 1 31 := ⟨by decide +kernel, rfl⟩
theorem e_X11_canBeEnough_31 : kk_d cX11_canBeEnough 31 (.getfield 210) 3 34 := ⟨by decide +kernel, rfl⟩
theorem e_X11_canBeEnough_34 : kk_dj cX11_canBeEnough 34 (.if_icmp .ge 205) 3 (205) 37 239 := ⟨by decide +kernel, rfl, by decide⟩
theorem e_X11_canBeEnough_239 : kk_d cX11_canBeEnough 239 (.iconst 1) 1 240 := ⟨by decide +kernel, rfl⟩
theorem e_X11_canBeEnough_240 : kk_d cX11_canBeEnough 240 .ireturn 1 241 := ⟨by decide +kernel, rfl⟩
theorem e_X11_canBeEnough_37 : kk_d cX11_canBeEnough 37 (.iconst 0) 1 38 := ⟨by decide +kernel, rfl⟩
theorem e_X11_canBeEnough_38 : kk_d cX11_canBeEnough 38 (.istore_n 3) 1 39 := ⟨by decide +kernel, rfl⟩
theorem e_X11_canBeEnough_39 : kk_d cX11_canBeEnough 39 (.iconst 0) 1 40 := ⟨by decide +kernel, rfl⟩
theorem e_X11_canBeEnough_40 : kk_d cX11_canBeEnough 40 (.istore 4) 2 42 := ⟨by decide +kernel, rfl⟩
theorem e_X11_canBeEnough_42 : kk_d cX11_canBeEnough 42 (.iconst 0) 1 43 := ⟨by decide +kernel, rfl⟩
theorem e_X11_canBeEnough_43 : kk_d cX11_canBeEnough 43 (.istore 5) 2 45 := ⟨by decide +kernel, rfl⟩
theorem e_X11_canBeEnough_45 : kk_d cX11_canBeEnough 45 (.iconst 0) 1 46 := ⟨by decide +kernel, rfl⟩
theorem e_X11_canBeEnough_46 : kk_d cX11_canBeEnough 46 (.istore 6) 2 48 := ⟨by decide +kernel, rfl⟩
theorem e_X11_canBeEnough_48 : kk_d cX11_canBeEnough 48 (.iload 6) 2 50 := ⟨by decide +kernel, rfl⟩
theorem e_X11_canBeEnough_50 : kk_d cX11_canBeEnough 50 (.aload_n 0) 1 51 := ⟨by decide +kernel, rfl⟩
theorem e_X11_canBeEnough_51 : kk_d cX11_canBeEnough 51 (.getfield 96) 3 54 := ⟨by decide +kernel, rfl⟩
theorem e_X11_canBeEnough_54 : kk_dj cX11_canBeEnough 54 (.if_icmp .ge 89) 3 (89) 57 143 := ⟨by decide +kernel, rfl, by decide⟩
theorem e_X11_canBeEnough_143 : kk_d cX11_canBeEnough 143 (.iconst 0) 1 144 := ⟨by decide +kernel, rfl⟩
theorem e_X11_canBeEnough_144 : kk_d cX11_canBeEnough 144 (.istore 6) 2 146 := ⟨by decide +kernel, rfl⟩
theorem e_X11_canBeEnough_146 : kk_d cX11_canBeEnough 146 (.iconst 0) 1 147 := ⟨by decide +kernel, rfl⟩
theorem e_X11_canBeEnough_147 : kk_d cX11_canBeEnough 147 (.istore 7) 2 149 := ⟨by decide +kernel, rfl⟩
theorem e_X11_canBeEnough_149 : kk_d cX11_canBeEnough 149 (.iload 7) 2 151 := ⟨by decide +kernel, rfl⟩
theorem e_X11_canBeEnough_151 : kk_d cX11_canBeEnough 151 (.bipush 9) 2 153 := ⟨by decide +kernel, rfl⟩
theorem e_X11_canBeEnough_153 : kk_dj cX11_canBeEnough 153 (.if_icmp .ge 72) 3 (72) 156 225 := ⟨by decide +kernel, rfl, by decide⟩
theorem e_X11_canBeEnough_225 : kk_d cX11_canBeEnough 225 (.iload 6) 2 227 := ⟨by decide +kernel, rfl⟩
theorem e_X11_canBeEnough_227 : kk_d cX11_canBeEnough 227 (.iload_n 3) 1 228 := ⟨by decide +kernel, rfl⟩
theorem e_X11_canBeEnough_228 : kk_dj cX11_canBeEnough 228 (.if_icmp .ge 5) 3 (5) 231 233 := ⟨by decide +kernel, rfl, by decide⟩
theorem e_X11_canBeEnough_233 : kk_d cX11_canBeEnough 233 (.iinc 2 1) 3 236 := ⟨by decide +kernel, rfl⟩
theorem e_X11_canBeEnough_236 : kk_dj cX11_canBeEnough 236 (.goto (-207)) 3 (-207) 239 29 := ⟨by decide +kernel, rfl, by decide⟩
theorem e_X11_canBeEnough_231 : kk_d cX11_canBeEnough 231 (.iconst 0) 1 232 := ⟨by decide +kernel, rfl⟩
theorem e_X11_canBeEnough_232 : kk_d cX11_canBeEnough 232 .ireturn 1 233 := ⟨by decide +kernel, rfl⟩
theorem e_X11_canBeEnough_156 : kk_d cX11_canBeEnough 156 (.iconst 0) 1 157 := ⟨by decide +kernel, rfl⟩
theorem e_X11_canBeEnough_157 : kk_d cX11_canBeEnough 157 (.istore 8) 2 159 := ⟨by decide +kernel, rfl⟩
theorem e_X11_canBeEnough_159 : kk_d cX11_canBeEnough 159 (.iconst 0) 1 160 := ⟨by decide +kernel, rfl⟩
theorem e_X11_canBeEnough_160 : kk_d cX11_canBeEnough 160 (.istore 9) 2 162 := ⟨by decide +kernel, rfl⟩
theorem e_X11_canBeEnough_162 : kk_d cX11_canBeEnough 162 (.iload 9) 2 164 := ⟨by decide +kernel, rfl⟩
theorem e_X11_canBeEnough_164 : kk_d cX11_canBeEnough 164 (.aload_n 0) 1 165 := ⟨by decide +kernel, rfl⟩
theorem e_X11_canBeEnough_165 : kk_d cX11_canBeEnough 165 (.getfield 21) 3 168 := ⟨by decide +kernel, rfl⟩
theorem e_X11_canBeEnough_168 : kk_dj cX11_canBeEnough 168 (.if_icmp .ge 42) 3 (42) 171 210 := ⟨by decide +kernel, rfl, by decide⟩
theorem e_X11_canBeEnough_210 : kk_d cX11_canBeEnough 210 (.iload 6) 2 212 := ⟨by decide +kernel, rfl⟩
theorem e_X11_canBeEnough_212 : kk_d cX11_canBeEnough 212 (.iload 8) 2 214 := ⟨by decide +kernel, rfl⟩
theorem e_X11_canBeEnough_214 : kk_d cX11_canBeEnough 214 (.iconst 2) 1 215 := ⟨by decide +kernel, rfl⟩
theorem e_X11_canBeEnough_215 : kk_d cX11_canBeEnough 215 .idiv 1 216 := ⟨by decide +kernel, rfl⟩
theorem e_X11_canBeEnough_216 : kk_d cX11_canBeEnough 216 .iadd 1 217 := ⟨by decide +kernel, rfl⟩
theorem e_X11_canBeEnough_217 : kk_d cX11_canBeEnough 217 (.istore 6) 2 219 := ⟨by decide +kernel, rfl⟩
theorem e_X11_canBeEnough_219 : kk_d cX11_canBeEnough 219 (.iinc 7 1) 3 222 := ⟨by decide +kernel, rfl⟩
theorem e_X11_canBeEnough_222 : kk_dj cX11_canBeEnough 222 (.goto (-73)) 3 (-73) 225 149 := ⟨by decide +kernel, rfl, by decide⟩
theorem e_X11_canBeEnough_171 : kk_d cX11_canBeEnough 171 (.iload 4) 2 173 := ⟨by decide +kernel, rfl⟩
theorem e_X11_canBeEnough_173 : kk_d cX11_canBeEnough 173 (.iload 9) 2 175 := ⟨by decide +kernel, rfl⟩
theorem e_X11_canBeEnough_175 : kk_d cX11_canBeEnough 175 (.invokestatic 11) 3 178 := ⟨by decide +kernel, rfl⟩
theorem e_X11_canBeEnough_178 : kk_dj cX11_canBeEnough 178 (.ifCond .eq 26) 3 (26) 181 204 := ⟨by decide +kernel, rfl, by decide⟩
theorem e_X11_canBeEnough_204 : kk_d cX11_canBeEnough 204 (.iinc 9 1) 3 207 := ⟨by decide +kernel, rfl⟩
theorem e_X11_canBeEnough_207 : kk_dj cX11_canBeEnough 207 (.goto (-45)) 3 (-45) 210 162 := ⟨by decide +kernel, rfl, by decide⟩
theorem e_X11_canBeEnough_181 : kk_d cX11_canBeEnough 181 (.iload 5) 2 183 := ⟨by decide +kernel, rfl⟩
theorem e_X11_canBeEnough_183 : kk_d cX11_canBeEnough 183 (.aload_n 0) 1 184 := ⟨by decide +kernel, rfl⟩
theorem e_X11_canBeEnough_184 : kk_d cX11_canBeEnough 184 (.getfield 58) 3 187 := ⟨by decide +kernel, rfl⟩
theorem e_X11_canBeEnough_187 : kk_d cX11_canBeEnough 187 (.iload 9) 2 189 := ⟨by decide +kernel, rfl⟩
theorem e_X11_canBeEnough_189 : kk_d cX11_canBeEnough 189 .iaload 1 190 := ⟨by decide +kernel, rfl⟩
theorem e_X11_canBeEnough_190 : kk_d cX11_canBeEnough 190 (.iconst (-1)) 1 191 := ⟨by decide +kernel, rfl⟩
theorem e_X11_canBeEnough_191 : kk_d cX11_canBeEnough 191 .ixor 1 192 := ⟨by decide +kernel, rfl⟩
theorem e_X11_canBeEnough_192 : kk_d cX11_canBeEnough 192 .iand 1 193 := ⟨by decide +kernel, rfl⟩
theorem e_X11_canBeEnough_193 : kk_d cX11_canBeEnough 193 (.iload 7) 2 195 := ⟨by decide +kernel, rfl⟩
theorem e_X11_canBeEnough_195 : kk_d cX11_canBeEnough 195 (.invokestatic 11) 3 198 := ⟨by decide +kernel, rfl⟩
theorem e_X11_canBeEnough_198 : kk_dj cX11_canBeEnough 198 (.ifCond .eq 6) 3 (6) 201 204 := ⟨by decide +kernel, rfl, by decide⟩
theorem e_X11_canBeEnough_201 : kk_d cX11_canBeEnough 201 (.iinc 8 1) 3 204 := ⟨by decide +kernel, rfl⟩
theorem e_X11_canBeEnough_57 : kk_d cX11_canBeEnough 57 (.iload_n 1) 1 58 := ⟨by decide +kernel, rfl⟩
theorem e_X11_canBeEnough_58 : kk_d cX11_canBeEnough 58 (.iload 6) 2 60 := ⟨by decide +kernel, rfl⟩
theorem e_X11_canBeEnough_60 : kk_d cX11_canBeEnough 60 (.invokestatic 11) 3 63 := ⟨by decide +kernel, rfl⟩
theorem e_X11_canBeEnough_63 : kk_dj cX11_canBeEnough 63 (.ifCond .eq 74) 3 (74) 66 137 := ⟨by decide +kernel, rfl, by decide⟩
theorem e_X11_canBeEnough_137 : kk_d cX11_canBeEnough 137 (.iinc 6 1) 3 140 := ⟨by decide +kernel, rfl⟩
theorem e_X11_canBeEnough_140 : kk_dj cX11_canBeEnough 140 (.goto (-92)) 3 (-92) 143 48 := ⟨by decide +kernel, rfl, by decide⟩
theorem e_X11_canBeEnough_66 : kk_d cX11_canBeEnough 66 (.aload_n 0) 1 67 := ⟨by decide +kernel, rfl⟩
theorem e_X11_canBeEnough_67 : kk_d cX11_canBeEnough 67 (.getfield 55) 3 70 := ⟨by decide +kernel, rfl⟩
theorem e_X11_canBeEnough_70 : kk_d cX11_canBeEnough 70 (.iload 6) 2 72 := ⟨by decide +kernel, rfl⟩
theorem e_X11_canBeEnough_72 : kk_d cX11_canBeEnough 72 .iaload 1 73 := ⟨by decide +kernel, rfl⟩
theorem e_X11_canBeEnough_73 : kk_dj cX11_canBeEnough 73 (.ifCond .ge 64) 3 (64) 76 137 := ⟨by decide +kernel, rfl, by decide⟩
theorem e_X11_canBeEnough_76 : kk_d cX11_canBeEnough 76 (.aload_n 0) 1 77 := ⟨by decide +kernel, rfl⟩
theorem e_X11_canBeEnough_77 : kk_d cX11_canBeEnough 77 (.getfield 67) 3 80 := ⟨by decide +kernel, rfl⟩
theorem e_X11_canBeEnough_80 : kk_d cX11_canBeEnough 80 (.iload_n 2) 1 81 := ⟨by decide +kernel, rfl⟩
theorem e_X11_canBeEnough_81 : kk_d cX11_canBeEnough 81 .iaload 1 82 := ⟨by decide +kernel, rfl⟩
theorem e_X11_canBeEnough_82 : kk_d cX11_canBeEnough 82 (.aload_n 0) 1 83 := ⟨by decide +kernel, rfl⟩
theorem e_X11_canBeEnough_83 : kk_d cX11_canBeEnough 83 (.getfield 24) 3 86 := ⟨by decide +kernel, rfl⟩
theorem e_X11_canBeEnough_86 : kk_d cX11_canBeEnough 86 (.iload 6) 2 88 := ⟨by decide +kernel, rfl⟩
theorem e_X11_canBeEnough_88 : kk_d cX11_canBeEnough 88 .iaload 1 89 := ⟨by decide +kernel, rfl⟩
theorem e_X11_canBeEnough_89 : kk_d cX11_canBeEnough 89 (.invokestatic 11) 3 92 := ⟨by decide +kernel, rfl⟩
theorem e_X11_canBeEnough_92 : kk_dj cX11_canBeEnough 92 (.ifCond .ne 6) 3 (6) 95 98 := ⟨by decide +kernel, rfl, by decide⟩
theorem e_X11_canBeEnough_98 : kk_d cX11_canBeEnough 98 (.iinc 3 1) 3 101 := ⟨by decide +kernel, rfl⟩
theorem e_X11_canBeEnough_101 : kk_d cX11_canBeEnough 101 (.iload 4) 2 103 := ⟨by decide +kernel, rfl⟩
theorem e_X11_canBeEnough_103 : kk_d cX11_canBeEnough 103 (.iconst 1) 1 104 := ⟨by decide +kernel, rfl⟩
theorem e_X11_canBeEnough_104 : kk_d cX11_canBeEnough 104 (.aload_n 0) 1 105 := ⟨by decide +kernel, rfl⟩
theorem e_X11_canBeEnough_105 : kk_d cX11_canBeEnough 105 (.getfield 24) 3 108 := ⟨by decide +kernel, rfl⟩
theorem e_X11_canBeEnough_108 : kk_d cX11_canBeEnough 108 (.iload 6) 2 110 := ⟨by decide +kernel, rfl⟩
theorem e_X11_canBeEnough_110 : kk_d cX11_canBeEnough 110 .iaload 1 111 := ⟨by decide +kernel, rfl⟩
theorem e_X11_canBeEnough_111 : kk_d cX11_canBeEnough 111 .ishl 1 112 := ⟨by decide +kernel, rfl⟩
theorem e_X11_canBeEnough_112 : kk_d cX11_canBeEnough 112 (.iconst 1) 1 113 := ⟨by decide +kernel, rfl⟩
theorem e_X11_canBeEnough_113 : kk_d cX11_canBeEnough 113 (.aload_n 0) 1 114 := ⟨by decide +kernel, rfl⟩
theorem e_X11_canBeEnough_114 : kk_d cX11_canBeEnough 114 (.getfield 28) 3 117 := ⟨by decide +kernel, rfl⟩
theorem e_X11_canBeEnough_117 : kk_d cX11_canBeEnough 117 (.iload 6) 2 119 := ⟨by decide +kernel, rfl⟩
theorem e_X11_canBeEnough_119 : kk_d cX11_canBeEnough 119 .iaload 1 120 := ⟨by decide +kernel, rfl⟩
theorem e_X11_canBeEnough_120 : kk_d cX11_canBeEnough 120 .ishl 1 121 := ⟨by decide +kernel, rfl⟩
theorem e_X11_canBeEnough_121 : kk_d cX11_canBeEnough 121 .ior 1 122 := ⟨by decide +kernel, rfl⟩
theorem e_X11_canBeEnough_122 : kk_d cX11_canBeEnough 122 .ior 1 123 := ⟨by decide +kernel, rfl⟩
theorem e_X11_canBeEnough_123 : kk_d cX11_canBeEnough 123 (.istore 4) 2 125 := ⟨by decide +kernel, rfl⟩
theorem e_X11_canBeEnough_125 : kk_d cX11_canBeEnough 125 (.iload 5) 2 127 := ⟨by decide +kernel, rfl⟩
theorem e_X11_canBeEnough_127 : kk_d cX11_canBeEnough 127 (.aload_n 0) 1 128 := ⟨by decide +kernel, rfl⟩
theorem e_X11_canBeEnough_128 : kk_d cX11_canBeEnough 128 (.getfield 52) 3 131 := ⟨by decide +kernel, rfl⟩
theorem e_X11_canBeEnough_131 : kk_d cX11_canBeEnough 131 (.iload 6) 2 133 := ⟨by decide +kernel, rfl⟩
theorem e_X11_canBeEnough_133 : kk_d cX11_canBeEnough 133 .iaload 1 134 := ⟨by decide +kernel, rfl⟩
theorem e_X11_canBeEnough_134 : kk_d cX11_canBeEnough 134 .ior 1 135 := ⟨by decide +kernel, rfl⟩
theorem e_X11_canBeEnough_135 : kk_d cX11_canBeEnough 135 (.istore 5) 2 137 := ⟨by decide +kernel, rfl⟩
theorem e_X11_canBeEnough_95 : kk_dj cX11_canBeEnough 95 (.goto 42) 3 (42) 98 137 := ⟨by decide +kernel, rfl, by decide⟩
theorem e_X11_canBeEnough_10 : kk_d cX11_canBeEnough 10 (.aload_n 0) 1 11 := ⟨by decide +kernel, rfl⟩
theorem e_X11_canBeEnough_11 : kk_d cX11_canBeEnough 11 (.iload_n 2) 1 12 := ⟨by decide +kernel, rfl⟩
theorem e_X11_canBeEnough_12 : kk_d cX11_canBeEnough 12 (.iload_n 1) 1 13 := ⟨by decide +kernel, rfl⟩
theorem e_X11_canBeEnough_13 : kk_d cX11_canBeEnough 13 (.invokevirtual 216) 3 16 := ⟨by decide +kernel, rfl⟩
theorem e_X11_canBeEnough_16 : kk_dj cX11_canBeEnough 16 (.ifCond .ne 5) 3 (5) 19 21 := ⟨by decide +kernel, rfl, by decide⟩
theorem e_X11_canBeEnough_21 : kk_d cX11_canBeEnough 21 (.iinc 2 1) 3 24 := ⟨by decide +kernel, rfl⟩
theorem e_X11_canBeEnough_24 : kk_dj cX11_canBeEnough 24 (.goto (-22)) 3 (-22) 27 2 := ⟨by decide +kernel, rfl, by decide⟩
theorem e_X11_canBeEnough_19 : kk_d cX11_canBeEnough 19 (.iconst 0) 1 20 := ⟨by decide +kernel, rfl⟩
theorem e_X11_canBeEnough_20 : kk_d cX11_canBeEnough 20 .ireturn 1 21 := ⟨by decide +kernel, rfl⟩
set_option maxRecDepth 4000 in
theorem s_X11_canBeEnough (Z : kk_Z) (v1 : Int32) (σ : kk_St) (Q : Int32 → Prop) (h : f_X11_canBeEnough v1 σ Q) : kk_M Z sh_M yX11_canBeEnough cX11_canBeEnough 10 (some .boolean) (kk_R 4) [.ref (Z.2.1 0), .int v1] σ (kk_Qi Z sh_M (fun r σ' => σ' = σ ∧ Q r)) := by
  unfold f_X11_canBeEnough at h
  refine kk_met (own := RX11) (by decide) rfl (Nat.le_of_ble_eq_true rfl) rfl ?_
  refine kk_iconst ic_0 e_X11_canBeEnough_0 ?_
  refine kk_istore_n (lv' := [(2, .int (0 : Int32)), (0, .ref (Z.2.1 0)), (1, .int v1)]) e_X11_canBeEnough_1 rfl (by decide) rfl ?_
  refine kk_sub [1, 2, 0] rfl ?_
  refine kk_lpW1 (P := fun (v2_1 : Int32) => KK Z sh_M RX11 cX11_canBeEnough 10 (some .boolean) (kk_R 4) (kk_Qi Z sh_M (fun r σ' => σ' = σ ∧ Q r)) 2 [(0, .ref (Z.2.1 0)), (1, .int v1), (2, .int v2_1)] [] σ) ?_ h
  intro rec_2 hrec_2 v2_1 h
  refine kk_iload_n 2 rfl e_X11_canBeEnough_2 ?_
  refine kk_aload_n 0 rfl e_X11_canBeEnough_3 ?_
  refine kk_geti e_X11_canBeEnough_4 fl_X11_21 rfl rfl ?_
  refine kk_icmp_ge e_X11_canBeEnough_7 (fun c_41 => ?_) (fun c_41 => ?_)
  · replace h := h.1 c_41
    refine kk_iconst ic_0 e_X11_canBeEnough_27 ?_
    refine kk_istore_n (lv' := [(2, .int (0 : Int32)), (0, .ref (Z.2.1 0)), (1, .int v1)]) e_X11_canBeEnough_28 rfl (by decide) rfl ?_
    refine kk_sub [1, 2, 0] rfl ?_
    refine kk_lpW1 (P := fun (v2_3 : Int32) => KK Z sh_M RX11 cX11_canBeEnough 10 (some .boolean) (kk_R 4) (kk_Qi Z sh_M (fun r σ' => σ' = σ ∧ Q r)) 29 [(0, .ref (Z.2.1 0)), (1, .int v1), (2, .int v2_3)] [] σ) ?_ h
    intro rec_4 hrec_4 v2_3 h
    refine kk_iload_n 2 rfl e_X11_canBeEnough_29 ?_
    refine kk_aload_n 0 rfl e_X11_canBeEnough_30 ?_
    refine kk_geti e_X11_canBeEnough_31 fl_X11_210 rfl rfl ?_
    refine kk_icmp_ge e_X11_canBeEnough_34 (fun c_38 => ?_) (fun c_38 => ?_)
    · replace h := h.1 c_38
      refine kk_iconst ic_1 e_X11_canBeEnough_239 ?_
      exact kk_zret e_X11_canBeEnough_240 (Or.inr rfl) ⟨rfl, h⟩
    · replace h := h.2 c_38
      refine kk_iconst ic_0 e_X11_canBeEnough_37 ?_
      refine kk_istore_n (lv' := [(3, .int (0 : Int32)), (0, .ref (Z.2.1 0)), (1, .int v1), (2, .int v2_3)]) e_X11_canBeEnough_38 rfl (by decide) rfl ?_
      refine kk_iconst ic_0 e_X11_canBeEnough_39 ?_
      refine kk_istore (lv' := [(4, .int (0 : Int32)), (3, .int (0 : Int32)), (0, .ref (Z.2.1 0)), (1, .int v1), (2, .int v2_3)]) e_X11_canBeEnough_40 (by decide) rfl ?_
      refine kk_iconst ic_0 e_X11_canBeEnough_42 ?_
      refine kk_istore (lv' := [(5, .int (0 : Int32)), (4, .int (0 : Int32)), (3, .int (0 : Int32)), (0, .ref (Z.2.1 0)), (1, .int v1), (2, .int v2_3)]) e_X11_canBeEnough_43 (by decide) rfl ?_
      refine kk_iconst ic_0 e_X11_canBeEnough_45 ?_
      refine kk_istore (lv' := [(6, .int (0 : Int32)), (5, .int (0 : Int32)), (4, .int (0 : Int32)), (3, .int (0 : Int32)), (0, .ref (Z.2.1 0)), (1, .int v1), (2, .int v2_3)]) e_X11_canBeEnough_46 (by decide) rfl ?_
      refine kk_sub [4, 5, 6, 3, 2, 1, 0] rfl ?_
      refine kk_lpW4 (P := fun (v3_5 : Int32) (v4_6 : Int32) (v5_7 : Int32) (v6_8 : Int32) => KK Z sh_M RX11 cX11_canBeEnough 10 (some .boolean) (kk_R 4) (kk_Qi Z sh_M (fun r σ' => σ' = σ ∧ Q r)) 48 [(0, .ref (Z.2.1 0)), (1, .int v1), (2, .int v2_3), (3, .int v3_5), (4, .int v4_6), (5, .int v5_7), (6, .int v6_8)] [] σ) ?_ h
      intro rec_9 hrec_9 v3_5 v4_6 v5_7 v6_8 h
      refine kk_iload 6 rfl e_X11_canBeEnough_48 ?_
      refine kk_aload_n 0 rfl e_X11_canBeEnough_50 ?_
      refine kk_geti e_X11_canBeEnough_51 fl_X11_96 rfl rfl ?_
      refine kk_icmp_ge e_X11_canBeEnough_54 (fun c_37 => ?_) (fun c_37 => ?_)
      · replace h := h.1 c_37
        refine kk_iconst ic_0 e_X11_canBeEnough_143 ?_
        refine kk_istore (lv' := [(6, .int (0 : Int32)), (0, .ref (Z.2.1 0)), (1, .int v1), (2, .int v2_3), (3, .int v3_5), (4, .int v4_6), (5, .int v5_7)]) e_X11_canBeEnough_144 (by decide) rfl ?_
        refine kk_iconst ic_0 e_X11_canBeEnough_146 ?_
        refine kk_istore (lv' := [(7, .int (0 : Int32)), (6, .int (0 : Int32)), (0, .ref (Z.2.1 0)), (1, .int v1), (2, .int v2_3), (3, .int v3_5), (4, .int v4_6), (5, .int v5_7)]) e_X11_canBeEnough_147 (by decide) rfl ?_
        refine kk_sub [2, 3, 4, 5, 6, 7, 1, 0] rfl ?_
        refine kk_lpW2 (P := fun (v6_10 : Int32) (v7_11 : Int32) => KK Z sh_M RX11 cX11_canBeEnough 10 (some .boolean) (kk_R 4) (kk_Qi Z sh_M (fun r σ' => σ' = σ ∧ Q r)) 149 [(0, .ref (Z.2.1 0)), (1, .int v1), (2, .int v2_3), (3, .int v3_5), (4, .int v4_6), (5, .int v5_7), (6, .int v6_10), (7, .int v7_11)] [] σ) ?_ h
        intro rec_12 hrec_12 v6_10 v7_11 h
        refine kk_iload 7 rfl e_X11_canBeEnough_149 ?_
        refine kk_bipush bp_9 e_X11_canBeEnough_151 ?_
        refine kk_icmp_ge e_X11_canBeEnough_153 (fun c_25 => ?_) (fun c_25 => ?_)
        · replace h := h.1 c_25
          refine kk_iload 6 rfl e_X11_canBeEnough_225 ?_
          refine kk_iload_n 3 rfl e_X11_canBeEnough_227 ?_
          refine kk_icmp_ge e_X11_canBeEnough_228 (fun c_13 => ?_) (fun c_13 => ?_)
          · replace h := h.1 c_13
            refine kk_iinc (lv' := [(2, .int (v2_3 + (1 : Int32))), (0, .ref (Z.2.1 0)), (1, .int v1), (3, .int v3_5), (4, .int v4_6), (5, .int v5_7), (6, .int v6_10), (7, .int v7_11)]) e_X11_canBeEnough_233 (j := 2) rfl (ii_1 v2_3) (by decide) rfl ?_
            refine kk_goto e_X11_canBeEnough_236 ?_
            exact kk_sub [1, 2, 0] rfl (hrec_4 (v2_3 + (1 : Int32)) h)
          · replace h := h.2 c_13
            refine kk_iconst ic_0 e_X11_canBeEnough_231 ?_
            exact kk_zret e_X11_canBeEnough_232 (Or.inl rfl) ⟨rfl, h⟩
        · replace h := h.2 c_25
          refine kk_iconst ic_0 e_X11_canBeEnough_156 ?_
          refine kk_istore (lv' := [(8, .int (0 : Int32)), (0, .ref (Z.2.1 0)), (1, .int v1), (2, .int v2_3), (3, .int v3_5), (4, .int v4_6), (5, .int v5_7), (6, .int v6_10), (7, .int v7_11)]) e_X11_canBeEnough_157 (by decide) rfl ?_
          refine kk_iconst ic_0 e_X11_canBeEnough_159 ?_
          refine kk_istore (lv' := [(9, .int (0 : Int32)), (8, .int (0 : Int32)), (0, .ref (Z.2.1 0)), (1, .int v1), (2, .int v2_3), (3, .int v3_5), (4, .int v4_6), (5, .int v5_7), (6, .int v6_10), (7, .int v7_11)]) e_X11_canBeEnough_160 (by decide) rfl ?_
          refine kk_sub [2, 3, 4, 5, 6, 7, 8, 9, 1, 0] rfl ?_
          refine kk_lpW2 (P := fun (v8_14 : Int32) (v9_15 : Int32) => KK Z sh_M RX11 cX11_canBeEnough 10 (some .boolean) (kk_R 4) (kk_Qi Z sh_M (fun r σ' => σ' = σ ∧ Q r)) 162 [(0, .ref (Z.2.1 0)), (1, .int v1), (2, .int v2_3), (3, .int v3_5), (4, .int v4_6), (5, .int v5_7), (6, .int v6_10), (7, .int v7_11), (8, .int v8_14), (9, .int v9_15)] [] σ) ?_ h
          intro rec_16 hrec_16 v8_14 v9_15 h
          refine kk_iload 9 rfl e_X11_canBeEnough_162 ?_
          refine kk_aload_n 0 rfl e_X11_canBeEnough_164 ?_
          refine kk_geti e_X11_canBeEnough_165 fl_X11_21 rfl rfl ?_
          refine kk_icmp_ge e_X11_canBeEnough_168 (fun c_24 => ?_) (fun c_24 => ?_)
          · replace h := h.1 c_24
            refine kk_iload 6 rfl e_X11_canBeEnough_210 ?_
            refine kk_iload 8 rfl e_X11_canBeEnough_212 ?_
            refine kk_iconst ic_2 e_X11_canBeEnough_214 ?_
            refine kk_idiv nz_2 e_X11_canBeEnough_215 ?_
            refine kk_iadd e_X11_canBeEnough_216 ?_
            refine kk_topi (fun v6_17 ev6_17 => ?_)
            replace h := h v6_17 ev6_17
            refine kk_istore (lv' := [(6, .int v6_17), (0, .ref (Z.2.1 0)), (1, .int v1), (2, .int v2_3), (3, .int v3_5), (4, .int v4_6), (5, .int v5_7), (7, .int v7_11), (8, .int v8_14), (9, .int v9_15)]) e_X11_canBeEnough_217 (by decide) rfl ?_
            refine kk_iinc (lv' := [(7, .int (v7_11 + (1 : Int32))), (6, .int v6_17), (0, .ref (Z.2.1 0)), (1, .int v1), (2, .int v2_3), (3, .int v3_5), (4, .int v4_6), (5, .int v5_7), (8, .int v8_14), (9, .int v9_15)]) e_X11_canBeEnough_219 (j := 7) rfl (ii_1 v7_11) (by decide) rfl ?_
            refine kk_goto e_X11_canBeEnough_222 ?_
            exact kk_sub [2, 3, 4, 5, 6, 7, 1, 0] rfl (hrec_12 v6_17 (v7_11 + (1 : Int32)) h)
          · replace h := h.2 c_24
            refine kk_iload 4 rfl e_X11_canBeEnough_171 ?_
            refine kk_iload 9 rfl e_X11_canBeEnough_173 ?_
            refine kk_callSip (As := [.int v4_6, .int v9_15]) (rest := []) e_X11_canBeEnough_175 ml_X11_11 rfl (kk_fitR (by decide) (by decide)) (Nat.le_of_ble_eq_true rfl) rfl (s_X11_has Z v4_6 v9_15 σ _ h) (fun r_18 h => ?_)
            refine kk_jW1 (P := fun (v8_19 : Int32) => KK Z sh_M RX11 cX11_canBeEnough 10 (some .boolean) (kk_R 4) (kk_Qi Z sh_M (fun r σ' => σ' = σ ∧ Q r)) 204 [(0, .ref (Z.2.1 0)), (1, .int v1), (2, .int v2_3), (3, .int v3_5), (4, .int v4_6), (5, .int v5_7), (6, .int v6_10), (7, .int v7_11), (8, .int v8_19), (9, .int v9_15)] [] σ) h ?_ ?_
            · intro v8_19 h
              refine kk_iinc (lv' := [(9, .int (v9_15 + (1 : Int32))), (0, .ref (Z.2.1 0)), (1, .int v1), (2, .int v2_3), (3, .int v3_5), (4, .int v4_6), (5, .int v5_7), (6, .int v6_10), (7, .int v7_11), (8, .int v8_19)]) e_X11_canBeEnough_204 (j := 9) rfl (ii_1 v9_15) (by decide) rfl ?_
              refine kk_goto e_X11_canBeEnough_207 ?_
              exact kk_sub [1, 2, 3, 4, 5, 6, 7, 8, 9, 0] rfl (hrec_16 v8_19 (v9_15 + (1 : Int32)) h)
            · intro J_20 hJ_20 h
              refine kk_if_eq e_X11_canBeEnough_178 (fun c_23 => ?_) (fun c_23 => ?_)
              · replace h := h.1 c_23
                exact kk_sub [0, 1, 2, 3, 4, 5, 6, 7, 8, 9] rfl (hJ_20 v8_14 h)
              · replace h := h.2 c_23
                refine kk_iload 5 rfl e_X11_canBeEnough_181 ?_
                refine kk_aload_n 0 rfl e_X11_canBeEnough_183 ?_
                refine kk_getr e_X11_canBeEnough_184 fl_X11_58 rfl rfl ?_
                refine kk_iload 9 rfl e_X11_canBeEnough_187 ?_
                refine kk_iald e_X11_canBeEnough_189 rfl h.1 ?_
                replace h := h.2
                refine kk_iconst ic_m1 e_X11_canBeEnough_190 ?_
                refine kk_ixor e_X11_canBeEnough_191 ?_
                refine kk_iand e_X11_canBeEnough_192 ?_
                refine kk_iload 7 rfl e_X11_canBeEnough_193 ?_
                refine kk_callSip (As := [.int (v5_7 &&& ((kk_rd σ 12 v9_15) ^^^ (-1 : Int32))), .int v7_11]) (rest := []) e_X11_canBeEnough_195 ml_X11_11 rfl (kk_fitR (by decide) (by decide)) (Nat.le_of_ble_eq_true rfl) rfl (s_X11_has Z (v5_7 &&& ((kk_rd σ 12 v9_15) ^^^ (-1 : Int32))) v7_11 σ _ h) (fun r_21 h => ?_)
                refine kk_if_eq e_X11_canBeEnough_198 (fun c_22 => ?_) (fun c_22 => ?_)
                · replace h := h.1 c_22
                  exact kk_sub [0, 1, 2, 3, 4, 5, 6, 7, 8, 9] rfl (hJ_20 v8_14 h)
                · replace h := h.2 c_22
                  refine kk_iinc (lv' := [(8, .int (v8_14 + (1 : Int32))), (0, .ref (Z.2.1 0)), (1, .int v1), (2, .int v2_3), (3, .int v3_5), (4, .int v4_6), (5, .int v5_7), (6, .int v6_10), (7, .int v7_11), (9, .int v9_15)]) e_X11_canBeEnough_201 (j := 8) rfl (ii_1 v8_14) (by decide) rfl ?_
                  exact kk_sub [1, 2, 3, 4, 5, 6, 7, 8, 0, 9] rfl (hJ_20 (v8_14 + (1 : Int32)) h)
      · replace h := h.2 c_37
        refine kk_iload_n 1 rfl e_X11_canBeEnough_57 ?_
        refine kk_iload 6 rfl e_X11_canBeEnough_58 ?_
        refine kk_callSip (As := [.int v1, .int v6_8]) (rest := []) e_X11_canBeEnough_60 ml_X11_11 rfl (kk_fitR (by decide) (by decide)) (Nat.le_of_ble_eq_true rfl) rfl (s_X11_has Z v1 v6_8 σ _ h) (fun r_26 h => ?_)
        refine kk_jW3 (P := fun (v3_27 : Int32) (v4_28 : Int32) (v5_29 : Int32) => KK Z sh_M RX11 cX11_canBeEnough 10 (some .boolean) (kk_R 4) (kk_Qi Z sh_M (fun r σ' => σ' = σ ∧ Q r)) 137 [(0, .ref (Z.2.1 0)), (1, .int v1), (2, .int v2_3), (3, .int v3_27), (4, .int v4_28), (5, .int v5_29), (6, .int v6_8)] [] σ) h ?_ ?_
        · intro v3_27 v4_28 v5_29 h
          refine kk_iinc (lv' := [(6, .int (v6_8 + (1 : Int32))), (0, .ref (Z.2.1 0)), (1, .int v1), (2, .int v2_3), (3, .int v3_27), (4, .int v4_28), (5, .int v5_29)]) e_X11_canBeEnough_137 (j := 6) rfl (ii_1 v6_8) (by decide) rfl ?_
          refine kk_goto e_X11_canBeEnough_140 ?_
          exact kk_sub [1, 2, 3, 4, 5, 6, 0] rfl (hrec_9 v3_27 v4_28 v5_29 (v6_8 + (1 : Int32)) h)
        · intro J_30 hJ_30 h
          refine kk_if_eq e_X11_canBeEnough_63 (fun c_36 => ?_) (fun c_36 => ?_)
          · replace h := h.1 c_36
            exact kk_sub [0, 1, 2, 3, 4, 5, 6] rfl (hJ_30 v3_5 v4_6 v5_7 h)
          · replace h := h.2 c_36
            refine kk_aload_n 0 rfl e_X11_canBeEnough_66 ?_
            refine kk_getr e_X11_canBeEnough_67 fl_X11_55 rfl rfl ?_
            refine kk_iload 6 rfl e_X11_canBeEnough_70 ?_
            refine kk_iald e_X11_canBeEnough_72 rfl h.1 ?_
            replace h := h.2
            refine kk_if_ge e_X11_canBeEnough_73 (fun c_35 => ?_) (fun c_35 => ?_)
            · replace h := h.1 c_35
              exact kk_sub [0, 1, 2, 3, 4, 5, 6] rfl (hJ_30 v3_5 v4_6 v5_7 h)
            · replace h := h.2 c_35
              refine kk_aload_n 0 rfl e_X11_canBeEnough_76 ?_
              refine kk_getr e_X11_canBeEnough_77 fl_X11_67 rfl rfl ?_
              refine kk_iload_n 2 rfl e_X11_canBeEnough_80 ?_
              refine kk_iald e_X11_canBeEnough_81 rfl h.1 ?_
              replace h := h.2
              refine kk_aload_n 0 rfl e_X11_canBeEnough_82 ?_
              refine kk_getr e_X11_canBeEnough_83 fl_X11_24 rfl rfl ?_
              refine kk_iload 6 rfl e_X11_canBeEnough_86 ?_
              refine kk_iald e_X11_canBeEnough_88 rfl h.1 ?_
              replace h := h.2
              refine kk_callSip (As := [.int (kk_rd σ 15 v2_3), .int (kk_rd σ 1 v6_8)]) (rest := []) e_X11_canBeEnough_89 ml_X11_11 rfl (kk_fitR (by decide) (by decide)) (Nat.le_of_ble_eq_true rfl) rfl (s_X11_has Z (kk_rd σ 15 v2_3) (kk_rd σ 1 v6_8) σ _ h) (fun r_31 h => ?_)
              refine kk_if_ne e_X11_canBeEnough_92 (fun c_34 => ?_) (fun c_34 => ?_)
              · replace h := h.1 c_34
                refine kk_iinc (lv' := [(3, .int (v3_5 + (1 : Int32))), (0, .ref (Z.2.1 0)), (1, .int v1), (2, .int v2_3), (4, .int v4_6), (5, .int v5_7), (6, .int v6_8)]) e_X11_canBeEnough_98 (j := 3) rfl (ii_1 v3_5) (by decide) rfl ?_
                refine kk_iload 4 rfl e_X11_canBeEnough_101 ?_
                refine kk_iconst ic_1 e_X11_canBeEnough_103 ?_
                refine kk_aload_n 1 rfl e_X11_canBeEnough_104 ?_
                refine kk_getr e_X11_canBeEnough_105 fl_X11_24 rfl rfl ?_
                refine kk_iload 6 rfl e_X11_canBeEnough_108 ?_
                refine kk_iald e_X11_canBeEnough_110 rfl h.1 ?_
                replace h := h.2
                refine kk_ishl e_X11_canBeEnough_111 ?_
                refine kk_iconst ic_1 e_X11_canBeEnough_112 ?_
                refine kk_aload_n 1 rfl e_X11_canBeEnough_113 ?_
                refine kk_getr e_X11_canBeEnough_114 fl_X11_28 rfl rfl ?_
                refine kk_iload 6 rfl e_X11_canBeEnough_117 ?_
                refine kk_iald e_X11_canBeEnough_119 rfl h.1 ?_
                replace h := h.2
                refine kk_ishl e_X11_canBeEnough_120 ?_
                refine kk_ior e_X11_canBeEnough_121 ?_
                refine kk_ior e_X11_canBeEnough_122 ?_
                refine kk_topi (fun v4_32 ev4_32 => ?_)
                replace h := h v4_32 ev4_32
                refine kk_istore (lv' := [(4, .int v4_32), (3, .int (v3_5 + (1 : Int32))), (0, .ref (Z.2.1 0)), (1, .int v1), (2, .int v2_3), (5, .int v5_7), (6, .int v6_8)]) e_X11_canBeEnough_123 (by decide) rfl ?_
                refine kk_iload 5 rfl e_X11_canBeEnough_125 ?_
                refine kk_aload_n 2 rfl e_X11_canBeEnough_127 ?_
                refine kk_getr e_X11_canBeEnough_128 fl_X11_52 rfl rfl ?_
                refine kk_iload 6 rfl e_X11_canBeEnough_131 ?_
                refine kk_iald e_X11_canBeEnough_133 rfl h.1 ?_
                replace h := h.2
                refine kk_ior e_X11_canBeEnough_134 ?_
                refine kk_topi (fun v5_33 ev5_33 => ?_)
                replace h := h v5_33 ev5_33
                refine kk_istore (lv' := [(5, .int v5_33), (4, .int v4_32), (3, .int (v3_5 + (1 : Int32))), (0, .ref (Z.2.1 0)), (1, .int v1), (2, .int v2_3), (6, .int v6_8)]) e_X11_canBeEnough_135 (by decide) rfl ?_
                exact kk_sub [3, 4, 5, 2, 1, 0, 6] rfl (hJ_30 (v3_5 + (1 : Int32)) v4_32 v5_33 h)
              · replace h := h.2 c_34
                refine kk_goto e_X11_canBeEnough_95 ?_
                exact kk_sub [0, 1, 2, 3, 4, 5, 6] rfl (hJ_30 v3_5 v4_6 v5_7 h)
  · replace h := h.2 c_41
    refine kk_aload_n 0 rfl e_X11_canBeEnough_10 ?_
    refine kk_iload_n 2 rfl e_X11_canBeEnough_11 ?_
    refine kk_iload_n 1 rfl e_X11_canBeEnough_12 ?_
    refine kk_callVip (As := [.int v2_1, .int v1]) (rest := []) e_X11_canBeEnough_13 ml_X11_216 ⟨_, _, _, _, rfl, rfl⟩ rfl (kk_fitR (by decide) (by decide)) (Nat.le_of_ble_eq_true rfl) rfl (s_X11_canBeAt Z v2_1 v1 σ _ h) (fun r_39 h => ?_)
    refine kk_if_ne e_X11_canBeEnough_16 (fun c_40 => ?_) (fun c_40 => ?_)
    · replace h := h.1 c_40
      refine kk_iinc (lv' := [(2, .int (v2_1 + (1 : Int32))), (0, .ref (Z.2.1 0)), (1, .int v1)]) e_X11_canBeEnough_21 (j := 2) rfl (ii_1 v2_1) (by decide) rfl ?_
      refine kk_goto e_X11_canBeEnough_24 ?_
      exact kk_sub [1, 2, 0] rfl (hrec_2 (v2_1 + (1 : Int32)) h)
    · replace h := h.2 c_40
      refine kk_iconst ic_0 e_X11_canBeEnough_19 ?_
      exact kk_zret e_X11_canBeEnough_20 (Or.inl rfl) ⟨rfl, h⟩
theorem e_X11_doMeet_0 : kk_d cX11_doMeet 0 (.aload_n 0) 1 1 := ⟨by decide +kernel, rfl⟩
theorem e_X11_doMeet_1 : kk_d cX11_doMeet 1 (.iload_n 1) 1 2 := ⟨by decide +kernel, rfl⟩
theorem e_X11_doMeet_2 : kk_d cX11_doMeet 2 (.aload_n 0) 1 3 := ⟨by decide +kernel, rfl⟩
theorem e_X11_doMeet_3 : kk_d cX11_doMeet 3 (.getfield 24) 3 6 := ⟨by decide +kernel, rfl⟩
theorem e_X11_doMeet_6 : kk_d cX11_doMeet 6 (.iload_n 2) 1 7 := ⟨by decide +kernel, rfl⟩
theorem e_X11_doMeet_7 : kk_d cX11_doMeet 7 .iaload 1 8 := ⟨by decide +kernel, rfl⟩
theorem e_X11_doMeet_8 : kk_d cX11_doMeet 8 (.invokevirtual 114) 3 11 := ⟨by decide +kernel, rfl⟩
theorem e_X11_doMeet_11 : kk_dj cX11_doMeet 11 (.ifCond .ne 17) 3 (17) 14 28 := ⟨by decide +kernel, rfl, by decide⟩
theorem e_X11_doMeet_33 : kk_d cX11_doMeet 33 .ireturn 1 34 := ⟨by decide +kernel, rfl⟩
theorem e_X11_doMeet_28 : kk_d cX11_doMeet 28 (.iconst 1) 1 29 := ⟨by decide +kernel, rfl⟩
theorem e_X11_doMeet_29 : kk_dj cX11_doMeet 29 (.goto 4) 3 (4) 32 33 := ⟨by decide +kernel, rfl, by decide⟩
theorem e_X11_doMeet_14 : kk_d cX11_doMeet 14 (.aload_n 0) 1 15 := ⟨by decide +kernel, rfl⟩
theorem e_X11_doMeet_15 : kk_d cX11_doMeet 15 (.iload_n 1) 1 16 := ⟨by decide +kernel, rfl⟩
theorem e_X11_doMeet_16 : kk_d cX11_doMeet 16 (.aload_n 0) 1 17 := ⟨by decide +kernel, rfl⟩
theorem e_X11_doMeet_17 : kk_d cX11_doMeet 17 (.getfield 28) 3 20 := ⟨by decide +kernel, rfl⟩
theorem e_X11_doMeet_20 : kk_d cX11_doMeet 20 (.iload_n 2) 1 21 := ⟨by decide +kernel, rfl⟩
theorem e_X11_doMeet_21 : kk_d cX11_doMeet 21 .iaload 1 22 := ⟨by decide +kernel, rfl⟩
theorem e_X11_doMeet_22 : kk_d cX11_doMeet 22 (.invokevirtual 114) 3 25 := ⟨by decide +kernel, rfl⟩
theorem e_X11_doMeet_25 : kk_dj cX11_doMeet 25 (.ifCond .eq 7) 3 (7) 28 32 := ⟨by decide +kernel, rfl, by decide⟩
theorem e_X11_doMeet_32 : kk_d cX11_doMeet 32 (.iconst 0) 1 33 := ⟨by decide +kernel, rfl⟩
set_option maxRecDepth 4000 in
theorem s_X11_doMeet (Z : kk_Z) (v1 : Int32) (v2 : Int32) (σ : kk_St) (Q : Int32 → Prop) (h : f_X11_doMeet v1 v2 σ Q) : kk_M Z sh_M yX11_doMeet cX11_doMeet 3 (some .boolean) (kk_R 3) [.ref (Z.2.1 0), .int v1, .int v2] σ (kk_Qi Z sh_M (fun r σ' => σ' = σ ∧ Q r)) := by
  unfold f_X11_doMeet at h
  refine kk_met (own := RX11) (by decide) rfl (Nat.le_of_ble_eq_true rfl) rfl ?_
  refine kk_aload_n 0 rfl e_X11_doMeet_0 ?_
  refine kk_iload_n 1 rfl e_X11_doMeet_1 ?_
  refine kk_aload_n 0 rfl e_X11_doMeet_2 ?_
  refine kk_getr e_X11_doMeet_3 fl_X11_24 rfl rfl ?_
  refine kk_iload_n 2 rfl e_X11_doMeet_6 ?_
  refine kk_iald e_X11_doMeet_7 rfl h.1 ?_
  replace h := h.2
  refine kk_callVip (As := [.int v1, .int (kk_rd σ 1 v2)]) (rest := []) e_X11_doMeet_8 ml_X11_114 ⟨_, _, _, _, rfl, rfl⟩ rfl (kk_fitR (by decide) (by decide)) (Nat.le_of_ble_eq_true rfl) rfl (s_X11_isAt Z v1 (kk_rd σ 1 v2) σ _ h) (fun r_1 h => ?_)
  refine kk_jW1 (P := fun (t_2 : Int32) => KK Z sh_M RX11 cX11_doMeet 3 (some .boolean) (kk_R 3) (kk_Qi Z sh_M (fun r σ' => σ' = σ ∧ Q r)) 33 [] [.int t_2] σ) h ?_ ?_
  · intro t_2 h
    exact kk_zret e_X11_doMeet_33 h.1 ⟨rfl, h.2⟩
  · intro J_3 hJ_3 h
    refine kk_jW0 (P := KK Z sh_M RX11 cX11_doMeet 3 (some .boolean) (kk_R 3) (kk_Qi Z sh_M (fun r σ' => σ' = σ ∧ Q r)) 28 [] [] σ) h ?_ ?_
    · intro h
      refine kk_iconst ic_1 e_X11_doMeet_28 ?_
      refine kk_goto e_X11_doMeet_29 ?_
      exact kk_sub [] rfl (hJ_3 (1 : Int32) h)
    · intro J_4 hJ_4 h
      refine kk_if_ne e_X11_doMeet_11 (fun c_7 => ?_) (fun c_7 => ?_)
      · replace h := h.1 c_7
        exact kk_sub [] rfl (hJ_4 h)
      · replace h := h.2 c_7
        refine kk_aload_n 0 rfl e_X11_doMeet_14 ?_
        refine kk_iload_n 1 rfl e_X11_doMeet_15 ?_
        refine kk_aload_n 0 rfl e_X11_doMeet_16 ?_
        refine kk_getr e_X11_doMeet_17 fl_X11_28 rfl rfl ?_
        refine kk_iload_n 2 rfl e_X11_doMeet_20 ?_
        refine kk_iald e_X11_doMeet_21 rfl h.1 ?_
        replace h := h.2
        refine kk_callVip (As := [.int v1, .int (kk_rd σ 2 v2)]) (rest := []) e_X11_doMeet_22 ml_X11_114 ⟨_, _, _, _, rfl, rfl⟩ rfl (kk_fitR (by decide) (by decide)) (Nat.le_of_ble_eq_true rfl) rfl (s_X11_isAt Z v1 (kk_rd σ 2 v2) σ _ h) (fun r_5 h => ?_)
        refine kk_if_eq e_X11_doMeet_25 (fun c_6 => ?_) (fun c_6 => ?_)
        · replace h := h.1 c_6
          refine kk_iconst ic_0 e_X11_doMeet_32 ?_
          exact kk_sub [] rfl (hJ_3 (0 : Int32) h)
        · replace h := h.2 c_6
          exact kk_sub [] rfl (hJ_4 h)
theorem e_X11_canBePart_0 : kk_d cX11_canBePart 0 (.iconst 0) 1 1 := ⟨by decide +kernel, rfl⟩
theorem e_X11_canBePart_1 : kk_d cX11_canBePart 1 (.istore_n 2) 1 2 := ⟨by decide +kernel, rfl⟩
theorem e_X11_canBePart_2 : kk_d cX11_canBePart 2 (.iload_n 2) 1 3 := ⟨by decide +kernel, rfl⟩
theorem e_X11_canBePart_3 : kk_d cX11_canBePart 3 (.iload_n 1) 1 4 := ⟨by decide +kernel, rfl⟩
theorem e_X11_canBePart_4 : kk_dj cX11_canBePart 4 (.if_icmp .ge 35) 3 (35) 7 39 := ⟨by decide +kernel, rfl, by decide⟩
theorem e_X11_canBePart_39 : kk_d cX11_canBePart 39 (.iconst 1) 1 40 := ⟨by decide +kernel, rfl⟩
theorem e_X11_canBePart_40 : kk_d cX11_canBePart 40 .ireturn 1 41 := ⟨by decide +kernel, rfl⟩
theorem e_X11_canBePart_7 : kk_d cX11_canBePart 7 (.aload_n 0) 1 8 := ⟨by decide +kernel, rfl⟩
theorem e_X11_canBePart_8 : kk_d cX11_canBePart 8 (.getfield 70) 3 11 := ⟨by decide +kernel, rfl⟩
theorem e_X11_canBePart_11 : kk_d cX11_canBePart 11 (.iload_n 2) 1 12 := ⟨by decide +kernel, rfl⟩
theorem e_X11_canBePart_12 : kk_d cX11_canBePart 12 .iaload 1 13 := ⟨by decide +kernel, rfl⟩
theorem e_X11_canBePart_13 : kk_d cX11_canBePart 13 (.aload_n 0) 1 14 := ⟨by decide +kernel, rfl⟩
theorem e_X11_canBePart_14 : kk_d cX11_canBePart 14 (.getfield 70) 3 17 := ⟨by decide +kernel, rfl⟩
theorem e_X11_canBePart_17 : kk_d cX11_canBePart 17 (.iload_n 1) 1 18 := ⟨by decide +kernel, rfl⟩
theorem e_X11_canBePart_18 : kk_d cX11_canBePart 18 .iaload 1 19 := ⟨by decide +kernel, rfl⟩
theorem e_X11_canBePart_19 : kk_dj cX11_canBePart 19 (.if_icmp .ne 14) 3 (14) 22 33 := ⟨by decide +kernel, rfl, by decide⟩
theorem e_X11_canBePart_33 : kk_d cX11_canBePart 33 (.iinc 2 1) 3 36 := ⟨by decide +kernel, rfl⟩
theorem e_X11_canBePart_36 : kk_dj cX11_canBePart 36 (.goto (-34)) 3 (-34) 39 2 := ⟨by decide +kernel, rfl, by decide⟩
theorem e_X11_canBePart_22 : kk_d cX11_canBePart 22 (.aload_n 0) 1 23 := ⟨by decide +kernel, rfl⟩
theorem e_X11_canBePart_23 : kk_d cX11_canBePart 23 (.iload_n 1) 1 24 := ⟨by decide +kernel, rfl⟩
theorem e_X11_canBePart_24 : kk_d cX11_canBePart 24 (.iload_n 2) 1 25 := ⟨by decide +kernel, rfl⟩
theorem e_X11_canBePart_25 : kk_d cX11_canBePart 25 (.invokevirtual 259) 3 28 := ⟨by decide +kernel, rfl⟩
theorem e_X11_canBePart_28 : kk_dj cX11_canBePart 28 (.ifCond .eq 5) 3 (5) 31 33 := ⟨by decide +kernel, rfl, by decide⟩
theorem e_X11_canBePart_31 : kk_d cX11_canBePart 31 (.iconst 0) 1 32 := ⟨by decide +kernel, rfl⟩
theorem e_X11_canBePart_32 : kk_d cX11_canBePart 32 .ireturn 1 33 := ⟨by decide +kernel, rfl⟩
set_option maxRecDepth 4000 in
theorem s_X11_canBePart (Z : kk_Z) (v1 : Int32) (σ : kk_St) (Q : Int32 → Prop) (h : f_X11_canBePart v1 σ Q) : kk_M Z sh_M yX11_canBePart cX11_canBePart 3 (some .boolean) (kk_R 4) [.ref (Z.2.1 0), .int v1] σ (kk_Qi Z sh_M (fun r σ' => σ' = σ ∧ Q r)) := by
  unfold f_X11_canBePart at h
  refine kk_met (own := RX11) (by decide) rfl (Nat.le_of_ble_eq_true rfl) rfl ?_
  refine kk_iconst ic_0 e_X11_canBePart_0 ?_
  refine kk_istore_n (lv' := [(2, .int (0 : Int32)), (0, .ref (Z.2.1 0)), (1, .int v1)]) e_X11_canBePart_1 rfl (by decide) rfl ?_
  refine kk_sub [1, 2, 0] rfl ?_
  refine kk_lpW1 (P := fun (v2_1 : Int32) => KK Z sh_M RX11 cX11_canBePart 3 (some .boolean) (kk_R 4) (kk_Qi Z sh_M (fun r σ' => σ' = σ ∧ Q r)) 2 [(0, .ref (Z.2.1 0)), (1, .int v1), (2, .int v2_1)] [] σ) ?_ h
  intro rec_2 hrec_2 v2_1 h
  refine kk_iload_n 2 rfl e_X11_canBePart_2 ?_
  refine kk_iload_n 1 rfl e_X11_canBePart_3 ?_
  refine kk_icmp_ge e_X11_canBePart_4 (fun c_7 => ?_) (fun c_7 => ?_)
  · replace h := h.1 c_7
    refine kk_iconst ic_1 e_X11_canBePart_39 ?_
    exact kk_zret e_X11_canBePart_40 (Or.inr rfl) ⟨rfl, h⟩
  · replace h := h.2 c_7
    refine kk_aload_n 0 rfl e_X11_canBePart_7 ?_
    refine kk_getr e_X11_canBePart_8 fl_X11_70 rfl rfl ?_
    refine kk_iload_n 2 rfl e_X11_canBePart_11 ?_
    refine kk_iald e_X11_canBePart_12 rfl h.1 ?_
    replace h := h.2
    refine kk_aload_n 0 rfl e_X11_canBePart_13 ?_
    refine kk_getr e_X11_canBePart_14 fl_X11_70 rfl rfl ?_
    refine kk_iload_n 1 rfl e_X11_canBePart_17 ?_
    refine kk_iald e_X11_canBePart_18 rfl h.1 ?_
    replace h := h.2
    refine kk_jW0 (P := KK Z sh_M RX11 cX11_canBePart 3 (some .boolean) (kk_R 4) (kk_Qi Z sh_M (fun r σ' => σ' = σ ∧ Q r)) 33 [(0, .ref (Z.2.1 0)), (1, .int v1), (2, .int v2_1)] [] σ) h ?_ ?_
    · intro h
      refine kk_iinc (lv' := [(2, .int (v2_1 + (1 : Int32))), (0, .ref (Z.2.1 0)), (1, .int v1)]) e_X11_canBePart_33 (j := 2) rfl (ii_1 v2_1) (by decide) rfl ?_
      refine kk_goto e_X11_canBePart_36 ?_
      exact kk_sub [1, 2, 0] rfl (hrec_2 (v2_1 + (1 : Int32)) h)
    · intro J_3 hJ_3 h
      refine kk_icmp_ne e_X11_canBePart_19 (fun c_6 => ?_) (fun c_6 => ?_)
      · replace h := h.1 c_6
        exact kk_sub [0, 1, 2] rfl (hJ_3 h)
      · replace h := h.2 c_6
        refine kk_aload_n 0 rfl e_X11_canBePart_22 ?_
        refine kk_iload_n 1 rfl e_X11_canBePart_23 ?_
        refine kk_iload_n 2 rfl e_X11_canBePart_24 ?_
        refine kk_callVip (As := [.int v1, .int v2_1]) (rest := []) e_X11_canBePart_25 ml_X11_259 ⟨_, _, _, _, rfl, rfl⟩ rfl (kk_fitR (by decide) (by decide)) (Nat.le_of_ble_eq_true rfl) rfl (s_X11_doMeet Z v1 v2_1 σ _ h) (fun r_4 h => ?_)
        refine kk_if_eq e_X11_canBePart_28 (fun c_5 => ?_) (fun c_5 => ?_)
        · replace h := h.1 c_5
          exact kk_sub [0, 1, 2] rfl (hJ_3 h)
        · replace h := h.2 c_5
          refine kk_iconst ic_0 e_X11_canBePart_31 ?_
          exact kk_zret e_X11_canBePart_32 (Or.inl rfl) ⟨rfl, h⟩
theorem e_X11_fewestWays_0 : kk_d cX11_fewestWays 0 (.iconst (-1)) 1 1 := ⟨by decide +kernel, rfl⟩
theorem e_X11_fewestWays_1 : kk_d cX11_fewestWays 1 (.istore_n 2) 1 2 := ⟨by decide +kernel, rfl⟩
theorem e_X11_fewestWays_2 : kk_d cX11_fewestWays 2 (.iconst 0) 1 3 := ⟨by decide +kernel, rfl⟩
theorem e_X11_fewestWays_3 : kk_d cX11_fewestWays 3 (.istore_n 3) 1 4 := ⟨by decide +kernel, rfl⟩
theorem e_X11_fewestWays_4 : kk_d cX11_fewestWays 4 (.iload_n 3) 1 5 := ⟨by decide +kernel, rfl⟩
theorem e_X11_fewestWays_5 : kk_d cX11_fewestWays 5 (.aload_n 0) 1 6 := ⟨by decide +kernel, rfl⟩
theorem e_X11_fewestWays_6 : kk_d cX11_fewestWays 6 (.getfield 96) 3 9 := ⟨by decide +kernel, rfl⟩
theorem e_X11_fewestWays_9 : kk_dj cX11_fewestWays 9 (.if_icmp .ge 55) 3 (55) 12 64 := ⟨by decide +kernel, rfl, by decide⟩
theorem e_X11_fewestWays_64 : kk_d cX11_fewestWays 64 (.iload_n 2) 1 65 := ⟨by decide +kernel, rfl⟩
theorem e_X11_fewestWays_65 : kk_d cX11_fewestWays 65 .ireturn 1 66 := ⟨by decide +kernel, rfl⟩
theorem e_X11_fewestWays_12 : kk_d cX11_fewestWays 12 (.iload_n 1) 1 13 := ⟨by decide +kernel, rfl⟩
theorem e_X11_fewestWays_13 : kk_d cX11_fewestWays 13 (.iload_n 3) 1 14 := ⟨by decide +kernel, rfl⟩
theorem e_X11_fewestWays_14 : kk_d cX11_fewestWays 14 (.invokestatic 11) 3 17 := ⟨by decide +kernel, rfl⟩
theorem e_X11_fewestWays_17 : kk_dj cX11_fewestWays 17 (.ifCond .eq 41) 3 (41) 20 58 := ⟨by decide +kernel, rfl, by decide⟩
theorem e_X11_fewestWays_58 : kk_d cX11_fewestWays 58 (.iinc 3 1) 3 61 := ⟨by decide +kernel, rfl⟩
theorem e_X11_fewestWays_61 : kk_dj cX11_fewestWays 61 (.goto (-57)) 3 (-57) 64 4 := ⟨by decide +kernel, rfl, by decide⟩
theorem e_X11_fewestWays_20 : kk_d cX11_fewestWays 20 (.aload_n 0) 1 21 := ⟨by decide +kernel, rfl⟩
theorem e_X11_fewestWays_21 : kk_d cX11_fewestWays 21 (.getfield 55) 3 24 := ⟨by decide +kernel, rfl⟩
theorem e_X11_fewestWays_24 : kk_d cX11_fewestWays 24 (.iload_n 3) 1 25 := ⟨by decide +kernel, rfl⟩
theorem e_X11_fewestWays_25 : kk_d cX11_fewestWays 25 .iaload 1 26 := ⟨by decide +kernel, rfl⟩
theorem e_X11_fewestWays_26 : kk_dj cX11_fewestWays 26 (.ifCond .lt 6) 3 (6) 29 32 := ⟨by decide +kernel, rfl, by decide⟩
theorem e_X11_fewestWays_32 : kk_d cX11_fewestWays 32 (.iload_n 2) 1 33 := ⟨by decide +kernel, rfl⟩
theorem e_X11_fewestWays_33 : kk_d cX11_fewestWays 33 (.iconst (-1)) 1 34 := ⟨by decide +kernel, rfl⟩
theorem e_X11_fewestWays_34 : kk_dj cX11_fewestWays 34 (.if_icmp .eq 22) 3 (22) 37 56 := ⟨by decide +kernel, rfl, by decide⟩
theorem e_X11_fewestWays_56 : kk_d cX11_fewestWays 56 (.iload_n 3) 1 57 := ⟨by decide +kernel, rfl⟩
theorem e_X11_fewestWays_57 : kk_d cX11_fewestWays 57 (.istore_n 2) 1 58 := ⟨by decide +kernel, rfl⟩
theorem e_X11_fewestWays_37 : kk_d cX11_fewestWays 37 (.aload_n 0) 1 38 := ⟨by decide +kernel, rfl⟩
theorem e_X11_fewestWays_38 : kk_d cX11_fewestWays 38 (.iload_n 3) 1 39 := ⟨by decide +kernel, rfl⟩
theorem e_X11_fewestWays_39 : kk_d cX11_fewestWays 39 (.invokevirtual 207) 3 42 := ⟨by decide +kernel, rfl⟩
theorem e_X11_fewestWays_42 : kk_d cX11_fewestWays 42 (.invokestatic 160) 3 45 := ⟨by decide +kernel, rfl⟩
theorem e_X11_fewestWays_45 : kk_d cX11_fewestWays 45 (.aload_n 0) 1 46 := ⟨by decide +kernel, rfl⟩
theorem e_X11_fewestWays_46 : kk_d cX11_fewestWays 46 (.iload_n 2) 1 47 := ⟨by decide +kernel, rfl⟩
theorem e_X11_fewestWays_47 : kk_d cX11_fewestWays 47 (.invokevirtual 207) 3 50 := ⟨by decide +kernel, rfl⟩
theorem e_X11_fewestWays_50 : kk_d cX11_fewestWays 50 (.invokestatic 160) 3 53 := ⟨by decide +kernel, rfl⟩
theorem e_X11_fewestWays_53 : kk_dj cX11_fewestWays 53 (.if_icmp .ge 5) 3 (5) 56 58 := ⟨by decide +kernel, rfl, by decide⟩
theorem e_X11_fewestWays_29 : kk_dj cX11_fewestWays 29 (.goto 29) 3 (29) 32 58 := ⟨by decide +kernel, rfl, by decide⟩
set_option maxRecDepth 4000 in
theorem s_X11_fewestWays (Z : kk_Z) (v1 : Int32) (σ : kk_St) (Q : Int32 → Prop) (h : f_X11_fewestWays v1 σ Q) : kk_M Z sh_M yX11_fewestWays cX11_fewestWays 4 (some .int) (kk_R 3) [.ref (Z.2.1 0), .int v1] σ (kk_Qi Z sh_M (fun r σ' => σ' = σ ∧ Q r)) := by
  unfold f_X11_fewestWays at h
  refine kk_met (own := RX11) (by decide) rfl (Nat.le_of_ble_eq_true rfl) rfl ?_
  refine kk_iconst ic_m1 e_X11_fewestWays_0 ?_
  refine kk_istore_n (lv' := [(2, .int (-1 : Int32)), (0, .ref (Z.2.1 0)), (1, .int v1)]) e_X11_fewestWays_1 rfl (by decide) rfl ?_
  refine kk_iconst ic_0 e_X11_fewestWays_2 ?_
  refine kk_istore_n (lv' := [(3, .int (0 : Int32)), (2, .int (-1 : Int32)), (0, .ref (Z.2.1 0)), (1, .int v1)]) e_X11_fewestWays_3 rfl (by decide) rfl ?_
  refine kk_sub [2, 3, 1, 0] rfl ?_
  refine kk_lpW2 (P := fun (v2_1 : Int32) (v3_2 : Int32) => KK Z sh_M RX11 cX11_fewestWays 4 (some .int) (kk_R 3) (kk_Qi Z sh_M (fun r σ' => σ' = σ ∧ Q r)) 4 [(0, .ref (Z.2.1 0)), (1, .int v1), (2, .int v2_1), (3, .int v3_2)] [] σ) ?_ h
  intro rec_3 hrec_3 v2_1 v3_2 h
  refine kk_iload_n 3 rfl e_X11_fewestWays_4 ?_
  refine kk_aload_n 0 rfl e_X11_fewestWays_5 ?_
  refine kk_geti e_X11_fewestWays_6 fl_X11_96 rfl rfl ?_
  refine kk_icmp_ge e_X11_fewestWays_9 (fun c_16 => ?_) (fun c_16 => ?_)
  · replace h := h.1 c_16
    refine kk_iload_n 2 rfl e_X11_fewestWays_64 ?_
    exact kk_iret e_X11_fewestWays_65 ⟨rfl, h⟩
  · replace h := h.2 c_16
    refine kk_iload_n 1 rfl e_X11_fewestWays_12 ?_
    refine kk_iload_n 3 rfl e_X11_fewestWays_13 ?_
    refine kk_callSip (As := [.int v1, .int v3_2]) (rest := []) e_X11_fewestWays_14 ml_X11_11 rfl (kk_fitR (by decide) (by decide)) (Nat.le_of_ble_eq_true rfl) rfl (s_X11_has Z v1 v3_2 σ _ h) (fun r_4 h => ?_)
    refine kk_jW1 (P := fun (v2_5 : Int32) => KK Z sh_M RX11 cX11_fewestWays 4 (some .int) (kk_R 3) (kk_Qi Z sh_M (fun r σ' => σ' = σ ∧ Q r)) 58 [(0, .ref (Z.2.1 0)), (1, .int v1), (2, .int v2_5), (3, .int v3_2)] [] σ) h ?_ ?_
    · intro v2_5 h
      refine kk_iinc (lv' := [(3, .int (v3_2 + (1 : Int32))), (0, .ref (Z.2.1 0)), (1, .int v1), (2, .int v2_5)]) e_X11_fewestWays_58 (j := 3) rfl (ii_1 v3_2) (by decide) rfl ?_
      refine kk_goto e_X11_fewestWays_61 ?_
      exact kk_sub [1, 2, 3, 0] rfl (hrec_3 v2_5 (v3_2 + (1 : Int32)) h)
    · intro J_6 hJ_6 h
      refine kk_if_eq e_X11_fewestWays_17 (fun c_15 => ?_) (fun c_15 => ?_)
      · replace h := h.1 c_15
        exact kk_sub [0, 1, 2, 3] rfl (hJ_6 v2_1 h)
      · replace h := h.2 c_15
        refine kk_aload_n 0 rfl e_X11_fewestWays_20 ?_
        refine kk_getr e_X11_fewestWays_21 fl_X11_55 rfl rfl ?_
        refine kk_iload_n 3 rfl e_X11_fewestWays_24 ?_
        refine kk_iald e_X11_fewestWays_25 rfl h.1 ?_
        replace h := h.2
        refine kk_if_lt e_X11_fewestWays_26 (fun c_14 => ?_) (fun c_14 => ?_)
        · replace h := h.1 c_14
          refine kk_iload_n 2 rfl e_X11_fewestWays_32 ?_
          refine kk_iconst ic_m1 e_X11_fewestWays_33 ?_
          refine kk_jW0 (P := KK Z sh_M RX11 cX11_fewestWays 4 (some .int) (kk_R 3) (kk_Qi Z sh_M (fun r σ' => σ' = σ ∧ Q r)) 56 [(0, .ref (Z.2.1 0)), (1, .int v1), (3, .int v3_2)] [] σ) h ?_ ?_
          · intro h
            refine kk_iload_n 2 rfl e_X11_fewestWays_56 ?_
            refine kk_istore_n (lv' := [(2, .int v3_2), (0, .ref (Z.2.1 0)), (1, .int v1), (3, .int v3_2)]) e_X11_fewestWays_57 rfl (by decide) rfl ?_
            exact kk_sub [1, 2, 0, 3] rfl (hJ_6 v3_2 h)
          · intro J_7 hJ_7 h
            refine kk_icmp_eq e_X11_fewestWays_34 (fun c_13 => ?_) (fun c_13 => ?_)
            · replace h := h.1 c_13
              exact kk_sub [0, 1, 3] rfl (hJ_7 h)
            · replace h := h.2 c_13
              refine kk_aload_n 0 rfl e_X11_fewestWays_37 ?_
              refine kk_iload_n 3 rfl e_X11_fewestWays_38 ?_
              refine kk_callVip (As := [.int v3_2]) (rest := []) e_X11_fewestWays_39 ml_X11_207 ⟨_, _, _, _, rfl, rfl⟩ rfl (kk_fitR (by decide) (by decide)) (Nat.le_of_ble_eq_true rfl) rfl (s_X11_waysOf Z v3_2 σ _ h) (fun r_8 h => ?_)
              refine kk_callSip (As := [.int r_8]) (rest := []) e_X11_fewestWays_42 ml_X11_160 rfl (kk_fitR (by decide) (by decide)) (Nat.le_of_ble_eq_true rfl) rfl (s_X11_bitsOf Z r_8 σ _ h) (fun r_9 h => ?_)
              refine kk_aload_n 0 rfl e_X11_fewestWays_45 ?_
              refine kk_iload_n 2 rfl e_X11_fewestWays_46 ?_
              refine kk_callVip (As := [.int v2_1]) (rest := [.int r_9]) e_X11_fewestWays_47 ml_X11_207 ⟨_, _, _, _, rfl, rfl⟩ rfl (kk_fitR (by decide) (by decide)) (Nat.le_of_ble_eq_true rfl) rfl (s_X11_waysOf Z v2_1 σ _ h) (fun r_10 h => ?_)
              refine kk_callSip (As := [.int r_10]) (rest := [.int r_9]) e_X11_fewestWays_50 ml_X11_160 rfl (kk_fitR (by decide) (by decide)) (Nat.le_of_ble_eq_true rfl) rfl (s_X11_bitsOf Z r_10 σ _ h) (fun r_11 h => ?_)
              refine kk_icmp_ge e_X11_fewestWays_53 (fun c_12 => ?_) (fun c_12 => ?_)
              · replace h := h.1 c_12
                exact kk_sub [0, 1, 2, 3] rfl (hJ_6 v2_1 h)
              · replace h := h.2 c_12
                exact kk_sub [0, 1, 3] rfl (hJ_7 h)
        · replace h := h.2 c_14
          refine kk_goto e_X11_fewestWays_29 ?_
          exact kk_sub [0, 1, 2, 3] rfl (hJ_6 v2_1 h)
