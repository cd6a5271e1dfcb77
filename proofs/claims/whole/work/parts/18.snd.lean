theorem e_X11_turn_0 : kk_d cX11_turn 0 (.aload_n 0) 1 1 := ⟨by decide +kernel, rfl⟩
theorem e_X11_turn_1 : kk_d cX11_turn 1 (.iload_n 1) 1 2 := ⟨by decide +kernel, rfl⟩
theorem e_X11_turn_2 : kk_d cX11_turn 2 (.iload_n 2) 1 3 := ⟨by decide +kernel, rfl⟩
theorem e_X11_turn_3 : kk_d cX11_turn 3 (.iload_n 3) 1 4 := ⟨by decide +kernel, rfl⟩
theorem e_X11_turn_4 : kk_d cX11_turn 4 (.invokevirtual 149) 3 7 := ⟨by decide +kernel, rfl⟩
theorem e_X11_turn_7 : kk_dj cX11_turn 7 (.ifCond .ne 5) 3 (5) 10 12 := ⟨by decide +kernel, rfl, by decide⟩
theorem e_X11_turn_12 : kk_d cX11_turn 12 (.aload_n 0) 1 13 := ⟨by decide +kernel, rfl⟩
theorem e_X11_turn_13 : kk_d cX11_turn 13 (.aload_n 0) 1 14 := ⟨by decide +kernel, rfl⟩
theorem e_X11_turn_14 : kk_d cX11_turn 14 (.getfield 31) 3 17 := ⟨by decide +kernel, rfl⟩
theorem e_X11_turn_17 : kk_d cX11_turn 17 (.iload_n 1) 1 18 := ⟨by decide +kernel, rfl⟩
theorem e_X11_turn_18 : kk_d cX11_turn 18 (.iload_n 2) 1 19 := ⟨by decide +kernel, rfl⟩
theorem e_X11_turn_19 : kk_d cX11_turn 19 (.iload_n 3) 1 20 := ⟨by decide +kernel, rfl⟩
theorem e_X11_turn_20 : kk_d cX11_turn 20 (.invokevirtual 152) 3 23 := ⟨by decide +kernel, rfl⟩
theorem e_X11_turn_23 : kk_d cX11_turn 23 (.istore 4) 2 25 := ⟨by decide +kernel, rfl⟩
theorem e_X11_turn_25 : kk_d cX11_turn 25 (.aload_n 0) 1 26 := ⟨by decide +kernel, rfl⟩
theorem e_X11_turn_26 : kk_d cX11_turn 26 (.getfield 31) 3 29 := ⟨by decide +kernel, rfl⟩
theorem e_X11_turn_29 : kk_d cX11_turn 29 (.iload 4) 2 31 := ⟨by decide +kernel, rfl⟩
theorem e_X11_turn_31 : kk_d cX11_turn 31 (.iload_n 2) 1 32 := ⟨by decide +kernel, rfl⟩
theorem e_X11_turn_32 : kk_d cX11_turn 32 (.iload_n 3) 1 33 := ⟨by decide +kernel, rfl⟩
theorem e_X11_turn_33 : kk_d cX11_turn 33 (.invokestatic 156) 3 36 := ⟨by decide +kernel, rfl⟩
theorem e_X11_turn_36 : kk_d cX11_turn 36 (.iload 4) 2 38 := ⟨by decide +kernel, rfl⟩
theorem e_X11_turn_38 : kk_d cX11_turn 38 (.invokestatic 160) 3 41 := ⟨by decide +kernel, rfl⟩
theorem e_X11_turn_41 : kk_d cX11_turn 41 .ireturn 1 42 := ⟨by decide +kernel, rfl⟩
theorem e_X11_turn_10 : kk_d cX11_turn 10 (.iconst (-1)) 1 11 := ⟨by decide +kernel, rfl⟩
theorem e_X11_turn_11 : kk_d cX11_turn 11 .ireturn 1 12 := ⟨by decide +kernel, rfl⟩
set_option maxRecDepth 4000 in
theorem s_X11_turn (Z : kk_Z) (v1 : Int32) (v2 : Int32) (v3 : Int32) (σ : kk_St) (Q : Int32 → kk_St → Prop) (h : f_X11_turn v1 v2 v3 σ Q) : kk_M Z sh_M yX11_turn cX11_turn 5 (some .int) (kk_R 9) [.ref (Z.2.1 0), .int v1, .int v2, .int v3] σ (kk_Qi Z sh_M Q) := by
  unfold f_X11_turn at h
  refine kk_met (own := RX11) (by decide) rfl (Nat.le_of_ble_eq_true rfl) rfl ?_
  refine kk_aload_n 0 rfl e_X11_turn_0 ?_
  refine kk_iload_n 1 rfl e_X11_turn_1 ?_
  refine kk_iload_n 2 rfl e_X11_turn_2 ?_
  refine kk_iload_n 3 rfl e_X11_turn_3 ?_
  refine kk_callVip (As := [.int v1, .int v2, .int v3]) (rest := []) e_X11_turn_4 ml_X11_149 ⟨_, _, _, _, rfl, rfl⟩ rfl (kk_fitR (by decide) (by decide)) (Nat.le_of_ble_eq_true rfl) rfl (s_X11_isChain Z v1 v2 v3 σ _ h) (fun r_1 h => ?_)
  refine kk_if_ne e_X11_turn_7 (fun c_6 => ?_) (fun c_6 => ?_)
  · replace h := h.1 c_6
    refine kk_aload_n 0 rfl e_X11_turn_12 ?_
    refine kk_aload_n 0 rfl e_X11_turn_13 ?_
    refine kk_getr e_X11_turn_14 fl_X11_31 rfl rfl ?_
    refine kk_iload_n 1 rfl e_X11_turn_17 ?_
    refine kk_iload_n 2 rfl e_X11_turn_18 ?_
    refine kk_iload_n 3 rfl e_X11_turn_19 ?_
    refine kk_callVi (As := [.ref (Z.2.1 3), .int v1, .int v2, .int v3]) (rest := []) e_X11_turn_20 ml_X11_152 ⟨_, _, _, _, rfl, rfl⟩ rfl (kk_fitR (by decide) (by decide)) (Nat.le_of_ble_eq_true rfl) rfl (s_X11_chainIn Z 3 20 v1 v2 v3 σ _ rfl h) (fun r_2 σ_3 h => ?_)
    refine kk_istore (lv' := [(4, .int r_2), (0, .ref (Z.2.1 0)), (1, .int v1), (2, .int v2), (3, .int v3)]) e_X11_turn_23 (by decide) rfl ?_
    refine kk_aload_n 1 rfl e_X11_turn_25 ?_
    refine kk_getr e_X11_turn_26 fl_X11_31 rfl rfl ?_
    refine kk_iload 0 rfl e_X11_turn_29 ?_
    refine kk_iload_n 3 rfl e_X11_turn_31 ?_
    refine kk_iload_n 4 rfl e_X11_turn_32 ?_
    refine kk_callSv (As := [.ref (Z.2.1 3), .int r_2, .int v2, .int v3]) (rest := []) e_X11_turn_33 ml_X11_156 rfl (kk_fitR (by decide) (by decide)) (Nat.le_of_ble_eq_true rfl) rfl (s_X11_flips Z 3 20 r_2 v2 v3 σ_3 _ rfl h) (fun σ_4 h => ?_)
    refine kk_iload 0 rfl e_X11_turn_36 ?_
    refine kk_callSip (As := [.int r_2]) (rest := []) e_X11_turn_38 ml_X11_160 rfl (kk_fitR (by decide) (by decide)) (Nat.le_of_ble_eq_true rfl) rfl (s_X11_bitsOf Z r_2 σ_4 _ h) (fun r_5 h => ?_)
    exact kk_iret e_X11_turn_41 h
  · replace h := h.2 c_6
    refine kk_iconst ic_m1 e_X11_turn_10 ?_
    exact kk_iret e_X11_turn_11 h
theorem e_X11_turns_0 : kk_d cX11_turns 0 (.iload_n 1) 1 1 := ⟨by decide +kernel, rfl⟩
theorem e_X11_turns_1 : kk_d cX11_turns 1 (.iconst 1) 1 2 := ⟨by decide +kernel, rfl⟩
theorem e_X11_turns_2 : kk_d cX11_turns 2 (.iconst 4) 1 3 := ⟨by decide +kernel, rfl⟩
theorem e_X11_turns_3 : kk_d cX11_turns 3 (.invokestatic 92) 3 6 := ⟨by decide +kernel, rfl⟩
theorem e_X11_turns_6 : kk_dj cX11_turns 6 (.ifCond .eq 43) 3 (43) 9 49 := ⟨by decide +kernel, rfl, by decide⟩
theorem e_X11_turns_49 : kk_d cX11_turns 49 (.iconst (-1)) 1 50 := ⟨by decide +kernel, rfl⟩
theorem e_X11_turns_50 : kk_d cX11_turns 50 .ireturn 1 51 := ⟨by decide +kernel, rfl⟩
theorem e_X11_turns_9 : kk_d cX11_turns 9 (.aload_n 0) 1 10 := ⟨by decide +kernel, rfl⟩
theorem e_X11_turns_10 : kk_d cX11_turns 10 (.getfield 99) 3 13 := ⟨by decide +kernel, rfl⟩
theorem e_X11_turns_13 : kk_dj cX11_turns 13 (.ifCond .eq 36) 3 (36) 16 49 := ⟨by decide +kernel, rfl, by decide⟩
theorem e_X11_turns_16 : kk_d cX11_turns 16 (.aload_n 0) 1 17 := ⟨by decide +kernel, rfl⟩
theorem e_X11_turns_17 : kk_d cX11_turns 17 (.getfield 96) 3 20 := ⟨by decide +kernel, rfl⟩
theorem e_X11_turns_20 : kk_d cX11_turns 20 (.bipush 6) 2 22 := ⟨by decide +kernel, rfl⟩
theorem e_X11_turns_22 : kk_dj cX11_turns 22 (.if_icmp .gt 27) 3 (27) 25 49 := ⟨by decide +kernel, rfl, by decide⟩
theorem e_X11_turns_25 : kk_d cX11_turns 25 (.aload_n 0) 1 26 := ⟨by decide +kernel, rfl⟩
theorem e_X11_turns_26 : kk_d cX11_turns 26 (.aload_n 0) 1 27 := ⟨by decide +kernel, rfl⟩
theorem e_X11_turns_27 : kk_d cX11_turns 27 (.getfield 37) 3 30 := ⟨by decide +kernel, rfl⟩
theorem e_X11_turns_30 : kk_d cX11_turns 30 (.iload_n 1) 1 31 := ⟨by decide +kernel, rfl⟩
theorem e_X11_turns_31 : kk_d cX11_turns 31 (.invokevirtual 292) 3 34 := ⟨by decide +kernel, rfl⟩
theorem e_X11_turns_34 : kk_dj cX11_turns 34 (.ifCond .eq 15) 3 (15) 37 49 := ⟨by decide +kernel, rfl, by decide⟩
theorem e_X11_turns_37 : kk_d cX11_turns 37 (.aload_n 0) 1 38 := ⟨by decide +kernel, rfl⟩
theorem e_X11_turns_38 : kk_d cX11_turns 38 (.aload_n 0) 1 39 := ⟨by decide +kernel, rfl⟩
theorem e_X11_turns_39 : kk_d cX11_turns 39 (.getfield 31) 3 42 := ⟨by decide +kernel, rfl⟩
theorem e_X11_turns_42 : kk_d cX11_turns 42 (.iload_n 1) 1 43 := ⟨by decide +kernel, rfl⟩
theorem e_X11_turns_43 : kk_d cX11_turns 43 (.invokevirtual 292) 3 46 := ⟨by decide +kernel, rfl⟩
theorem e_X11_turns_46 : kk_dj cX11_turns 46 (.ifCond .ne 5) 3 (5) 49 51 := ⟨by decide +kernel, rfl, by decide⟩
theorem e_X11_turns_51 : kk_d cX11_turns 51 (.iconst 0) 1 52 := ⟨by decide +kernel, rfl⟩
theorem e_X11_turns_52 : kk_d cX11_turns 52 (.istore_n 2) 1 53 := ⟨by decide +kernel, rfl⟩
theorem e_X11_turns_53 : kk_d cX11_turns 53 (.iload_n 2) 1 54 := ⟨by decide +kernel, rfl⟩
theorem e_X11_turns_54 : kk_d cX11_turns 54 (.aload_n 0) 1 55 := ⟨by decide +kernel, rfl⟩
theorem e_X11_turns_55 : kk_d cX11_turns 55 (.iload_n 1) 1 56 := ⟨by decide +kernel, rfl⟩
theorem e_X11_turns_56 : kk_d cX11_turns 56 (.invokevirtual 282) 3 59 := ⟨by decide +kernel, rfl⟩
theorem e_X11_turns_59 : kk_dj cX11_turns 59 (.if_icmp .ge 16) 3 (16) 62 75 := ⟨by decide +kernel, rfl, by decide⟩
theorem e_X11_turns_75 : kk_d cX11_turns 75 (.aload_n 0) 1 76 := ⟨by decide +kernel, rfl⟩
theorem e_X11_turns_76 : kk_d cX11_turns 76 (.aload_n 0) 1 77 := ⟨by decide +kernel, rfl⟩
theorem e_X11_turns_77 : kk_d cX11_turns 77 (.aload_n 0) 1 78 := ⟨by decide +kernel, rfl⟩
theorem e_X11_turns_78 : kk_d cX11_turns 78 (.getfield 37) 3 81 := ⟨by decide +kernel, rfl⟩
theorem e_X11_turns_81 : kk_d cX11_turns 81 (.iload_n 1) 1 82 := ⟨by decide +kernel, rfl⟩
theorem e_X11_turns_82 : kk_d cX11_turns 82 (.invokevirtual 278) 3 85 := ⟨by decide +kernel, rfl⟩
theorem e_X11_turns_85 : kk_d cX11_turns 85 (.iload_n 1) 1 86 := ⟨by decide +kernel, rfl⟩
theorem e_X11_turns_86 : kk_d cX11_turns 86 (.iconst 1) 1 87 := ⟨by decide +kernel, rfl⟩
theorem e_X11_turns_87 : kk_d cX11_turns 87 (.invokevirtual 288) 3 90 := ⟨by decide +kernel, rfl⟩
theorem e_X11_turns_90 : kk_d cX11_turns 90 (.aload_n 0) 1 91 := ⟨by decide +kernel, rfl⟩
theorem e_X11_turns_91 : kk_d cX11_turns 91 (.getfield 80) 3 94 := ⟨by decide +kernel, rfl⟩
theorem e_X11_turns_94 : kk_d cX11_turns 94 (.aload_n 0) 1 95 := ⟨by decide +kernel, rfl⟩
theorem e_X11_turns_95 : kk_d cX11_turns 95 (.aload_n 0) 1 96 := ⟨by decide +kernel, rfl⟩
theorem e_X11_turns_96 : kk_d cX11_turns 96 (.getfield 31) 3 99 := ⟨by decide +kernel, rfl⟩
theorem e_X11_turns_99 : kk_d cX11_turns 99 (.iload_n 1) 1 100 := ⟨by decide +kernel, rfl⟩
theorem e_X11_turns_100 : kk_d cX11_turns 100 (.invokevirtual 278) 3 103 := ⟨by decide +kernel, rfl⟩
theorem e_X11_turns_103 : kk_d cX11_turns 103 .iaload 1 104 := ⟨by decide +kernel, rfl⟩
theorem e_X11_turns_104 : kk_d cX11_turns 104 (.istore_n 2) 1 105 := ⟨by decide +kernel, rfl⟩
theorem e_X11_turns_105 : kk_d cX11_turns 105 (.iload_n 2) 1 106 := ⟨by decide +kernel, rfl⟩
theorem e_X11_turns_106 : kk_dj cX11_turns 106 (.ifCond .ne 8) 3 (8) 109 114 := ⟨by decide +kernel, rfl, by decide⟩
theorem e_X11_turns_117 : kk_d cX11_turns 117 .ireturn 1 118 := ⟨by decide +kernel, rfl⟩
theorem e_X11_turns_114 : kk_d cX11_turns 114 (.iload_n 2) 1 115 := ⟨by decide +kernel, rfl⟩
theorem e_X11_turns_115 : kk_d cX11_turns 115 (.iconst 1) 1 116 := ⟨by decide +kernel, rfl⟩
theorem e_X11_turns_116 : kk_d cX11_turns 116 .isub 1 117 := ⟨by decide +kernel, rfl⟩
theorem e_X11_turns_109 : kk_d cX11_turns 109 (.bipush (-2)) 2 111 := ⟨by decide +kernel, rfl⟩
theorem e_X11_turns_111 : kk_dj cX11_turns 111 (.goto 6) 3 (6) 114 117 := ⟨by decide +kernel, rfl, by decide⟩
theorem e_X11_turns_62 : kk_d cX11_turns 62 (.aload_n 0) 1 63 := ⟨by decide +kernel, rfl⟩
theorem e_X11_turns_63 : kk_d cX11_turns 63 (.getfield 80) 3 66 := ⟨by decide +kernel, rfl⟩
theorem e_X11_turns_66 : kk_d cX11_turns 66 (.iload_n 2) 1 67 := ⟨by decide +kernel, rfl⟩
theorem e_X11_turns_67 : kk_d cX11_turns 67 (.iconst 0) 1 68 := ⟨by decide +kernel, rfl⟩
theorem e_X11_turns_68 : kk_d cX11_turns 68 .iastore 1 69 := ⟨by decide +kernel, rfl⟩
theorem e_X11_turns_69 : kk_d cX11_turns 69 (.iinc 2 1) 3 72 := ⟨by decide +kernel, rfl⟩
theorem e_X11_turns_72 : kk_dj cX11_turns 72 (.goto (-19)) 3 (-19) 75 53 := ⟨by decide +kernel, rfl, by decide⟩
set_option maxRecDepth 4000 in
theorem s_X11_turns (Z : kk_Z) (v1 : Int32) (σ : kk_St) (Q : Int32 → kk_St → Prop) (h : f_X11_turns v1 σ Q) : kk_M Z sh_M yX11_turns cX11_turns 3 (some .int) (kk_R 5) [.ref (Z.2.1 0), .int v1] σ (kk_Qi Z sh_M Q) := by
  unfold f_X11_turns at h
  refine kk_met (own := RX11) (by decide) rfl (Nat.le_of_ble_eq_true rfl) rfl ?_
  refine kk_iload_n 1 rfl e_X11_turns_0 ?_
  refine kk_iconst ic_1 e_X11_turns_1 ?_
  refine kk_iconst ic_4 e_X11_turns_2 ?_
  refine kk_callSip (As := [.int v1, .int (1 : Int32), .int (4 : Int32)]) (rest := []) e_X11_turns_3 ml_X11_92 rfl (kk_fitR (by decide) (by decide)) (Nat.le_of_ble_eq_true rfl) rfl (s_X11_in Z v1 (1 : Int32) (4 : Int32) σ _ h) (fun r_1 h => ?_)
  refine kk_jW0 (P := KK Z sh_M RX11 cX11_turns 3 (some .int) (kk_R 5) (kk_Qi Z sh_M Q) 49 [] [] σ) h ?_ ?_
  · intro h
    refine kk_iconst ic_m1 e_X11_turns_49 ?_
    exact kk_iret e_X11_turns_50 h
  · intro J_2 hJ_2 h
    refine kk_if_eq e_X11_turns_6 (fun c_21 => ?_) (fun c_21 => ?_)
    · replace h := h.1 c_21
      exact kk_sub [] rfl (hJ_2 h)
    · replace h := h.2 c_21
      refine kk_aload_n 0 rfl e_X11_turns_9 ?_
      refine kk_geti e_X11_turns_10 fl_X11_99 rfl rfl ?_
      refine kk_if_eq e_X11_turns_13 (fun c_20 => ?_) (fun c_20 => ?_)
      · replace h := h.1 c_20
        exact kk_sub [] rfl (hJ_2 h)
      · replace h := h.2 c_20
        refine kk_aload_n 0 rfl e_X11_turns_16 ?_
        refine kk_geti e_X11_turns_17 fl_X11_96 rfl rfl ?_
        refine kk_bipush bp_6 e_X11_turns_20 ?_
        refine kk_icmp_gt e_X11_turns_22 (fun c_19 => ?_) (fun c_19 => ?_)
        · replace h := h.1 c_19
          exact kk_sub [] rfl (hJ_2 h)
        · replace h := h.2 c_19
          refine kk_aload_n 0 rfl e_X11_turns_25 ?_
          refine kk_aload_n 0 rfl e_X11_turns_26 ?_
          refine kk_getr e_X11_turns_27 fl_X11_37 rfl rfl ?_
          refine kk_iload_n 1 rfl e_X11_turns_30 ?_
          refine kk_callVip (As := [.ref (Z.2.1 5), .int v1]) (rest := []) e_X11_turns_31 ml_X11_292 ⟨_, _, _, _, rfl, rfl⟩ rfl (kk_fitR (by decide) (by decide)) (Nat.le_of_ble_eq_true rfl) rfl (s_X11_areBelow Z 5 20 v1 σ _ rfl h) (fun r_3 h => ?_)
          refine kk_if_eq e_X11_turns_34 (fun c_18 => ?_) (fun c_18 => ?_)
          · replace h := h.1 c_18
            exact kk_sub [] rfl (hJ_2 h)
          · replace h := h.2 c_18
            refine kk_aload_n 0 rfl e_X11_turns_37 ?_
            refine kk_aload_n 0 rfl e_X11_turns_38 ?_
            refine kk_getr e_X11_turns_39 fl_X11_31 rfl rfl ?_
            refine kk_iload_n 1 rfl e_X11_turns_42 ?_
            refine kk_callVip (As := [.ref (Z.2.1 3), .int v1]) (rest := []) e_X11_turns_43 ml_X11_292 ⟨_, _, _, _, rfl, rfl⟩ rfl (kk_fitR (by decide) (by decide)) (Nat.le_of_ble_eq_true rfl) rfl (s_X11_areBelow Z 3 20 v1 σ _ rfl h) (fun r_4 h => ?_)
            refine kk_if_ne e_X11_turns_46 (fun c_17 => ?_) (fun c_17 => ?_)
            · replace h := h.1 c_17
              refine kk_iconst ic_0 e_X11_turns_51 ?_
              refine kk_istore_n (lv' := [(2, .int (0 : Int32)), (0, .ref (Z.2.1 0)), (1, .int v1)]) e_X11_turns_52 rfl (by decide) rfl ?_
              refine kk_sub [1, 2, 0] rfl ?_
              refine kk_lpW2 (P := fun (v2_5 : Int32) (σ_6 : kk_St) => KK Z sh_M RX11 cX11_turns 3 (some .int) (kk_R 5) (kk_Qi Z sh_M Q) 53 [(0, .ref (Z.2.1 0)), (1, .int v1), (2, .int v2_5)] [] σ_6) ?_ h
              intro rec_7 hrec_7 v2_5 σ_6 h
              refine kk_iload_n 2 rfl e_X11_turns_53 ?_
              refine kk_aload_n 0 rfl e_X11_turns_54 ?_
              refine kk_iload_n 1 rfl e_X11_turns_55 ?_
              refine kk_callVip (As := [.int v1]) (rest := [.int v2_5]) e_X11_turns_56 ml_X11_282 ⟨_, _, _, _, rfl, rfl⟩ rfl (kk_fitR (by decide) (by decide)) (Nat.le_of_ble_eq_true rfl) rfl (s_X11_codes Z v1 σ_6 _ h) (fun r_8 h => ?_)
              refine kk_icmp_ge e_X11_turns_59 (fun c_16 => ?_) (fun c_16 => ?_)
              · replace h := h.1 c_16
                refine kk_aload_n 0 rfl e_X11_turns_75 ?_
                refine kk_aload_n 0 rfl e_X11_turns_76 ?_
                refine kk_aload_n 0 rfl e_X11_turns_77 ?_
                refine kk_getr e_X11_turns_78 fl_X11_37 rfl rfl ?_
                refine kk_iload_n 1 rfl e_X11_turns_81 ?_
                refine kk_callVip (As := [.ref (Z.2.1 5), .int v1]) (rest := [.ref (Z.2.1 0)]) e_X11_turns_82 ml_X11_278 ⟨_, _, _, _, rfl, rfl⟩ rfl (kk_fitR (by decide) (by decide)) (Nat.le_of_ble_eq_true rfl) rfl (s_X11_codeOf Z 5 20 v1 σ_6 _ rfl h) (fun r_9 h => ?_)
                refine kk_iload_n 1 rfl e_X11_turns_85 ?_
                refine kk_iconst ic_1 e_X11_turns_86 ?_
                refine kk_callVv (As := [.int r_9, .int v1, .int (1 : Int32)]) (rest := []) e_X11_turns_87 ml_X11_288 ⟨_, _, _, _, rfl, rfl⟩ rfl (kk_fitR (by decide) (by decide)) (Nat.le_of_ble_eq_true rfl) rfl (s_X11_spreads Z r_9 v1 (1 : Int32) σ_6 _ h) (fun σ_10 h => ?_)
                refine kk_aload_n 0 rfl e_X11_turns_90 ?_
                refine kk_getr e_X11_turns_91 fl_X11_80 rfl rfl ?_
                refine kk_aload_n 0 rfl e_X11_turns_94 ?_
                refine kk_aload_n 0 rfl e_X11_turns_95 ?_
                refine kk_getr e_X11_turns_96 fl_X11_31 rfl rfl ?_
                refine kk_iload_n 1 rfl e_X11_turns_99 ?_
                refine kk_callVip (As := [.ref (Z.2.1 3), .int v1]) (rest := [.ref (Z.2.1 19)]) e_X11_turns_100 ml_X11_278 ⟨_, _, _, _, rfl, rfl⟩ rfl (kk_fitR (by decide) (by decide)) (Nat.le_of_ble_eq_true rfl) rfl (s_X11_codeOf Z 3 20 v1 σ_10 _ rfl h) (fun r_11 h => ?_)
                refine kk_iald e_X11_turns_103 rfl h.1 ?_
                replace h := h.2
                refine kk_istore_n (lv' := [(2, .int (kk_rd σ_10 19 r_11)), (0, .ref (Z.2.1 0)), (1, .int v1)]) e_X11_turns_104 rfl (by decide) rfl ?_
                refine kk_iload_n 0 rfl e_X11_turns_105 ?_
                refine kk_jW1 (P := fun (t_12 : Int32) => KK Z sh_M RX11 cX11_turns 3 (some .int) (kk_R 5) (kk_Qi Z sh_M Q) 117 [] [.int t_12] σ_10) h ?_ ?_
                · intro t_12 h
                  exact kk_iret e_X11_turns_117 h
                · intro J_13 hJ_13 h
                  refine kk_if_ne e_X11_turns_106 (fun c_14 => ?_) (fun c_14 => ?_)
                  · replace h := h.1 c_14
                    refine kk_iload_n 0 rfl e_X11_turns_114 ?_
                    refine kk_iconst ic_1 e_X11_turns_115 ?_
                    refine kk_isub e_X11_turns_116 ?_
                    exact kk_sub [] rfl (hJ_13 ((kk_rd σ_10 19 r_11) - (1 : Int32)) h)
                  · replace h := h.2 c_14
                    refine kk_bipush bp_m2 e_X11_turns_109 ?_
                    refine kk_goto e_X11_turns_111 ?_
                    exact kk_sub [] rfl (hJ_13 (-2 : Int32) h)
              · replace h := h.2 c_16
                refine kk_aload_n 0 rfl e_X11_turns_62 ?_
                refine kk_getr e_X11_turns_63 fl_X11_80 rfl rfl ?_
                refine kk_iload_n 2 rfl e_X11_turns_66 ?_
                refine kk_iconst ic_0 e_X11_turns_67 ?_
                refine kk_iast e_X11_turns_68 rfl h.1 ?_
                replace h := h.2
                refine kk_tops (fun σ_15 eσ_15 => ?_)
                replace h := h σ_15 eσ_15
                refine kk_iinc (lv' := [(2, .int (v2_5 + (1 : Int32))), (0, .ref (Z.2.1 0)), (1, .int v1)]) e_X11_turns_69 (j := 2) rfl (ii_1 v2_5) (by decide) rfl ?_
                refine kk_goto e_X11_turns_72 ?_
                exact kk_sub [1, 2, 0] rfl (hrec_7 (v2_5 + (1 : Int32)) σ_15 h)
            · replace h := h.2 c_17
              exact kk_sub [] rfl (hJ_2 h)
theorem e_X11_unlike_0 : kk_d cX11_unlike 0 (.iload_n 1) 1 1 := ⟨by decide +kernel, rfl⟩
theorem e_X11_unlike_1 : kk_d cX11_unlike 1 (.iconst 0) 1 2 := ⟨by decide +kernel, rfl⟩
theorem e_X11_unlike_2 : kk_d cX11_unlike 2 (.iconst 1) 1 3 := ⟨by decide +kernel, rfl⟩
theorem e_X11_unlike_3 : kk_d cX11_unlike 3 (.invokestatic 92) 3 6 := ⟨by decide +kernel, rfl⟩
theorem e_X11_unlike_6 : kk_dj cX11_unlike 6 (.ifCond .ne 5) 3 (5) 9 11 := ⟨by decide +kernel, rfl, by decide⟩
theorem e_X11_unlike_11 : kk_d cX11_unlike 11 (.aload_n 0) 1 12 := ⟨by decide +kernel, rfl⟩
theorem e_X11_unlike_12 : kk_d cX11_unlike 12 (.getfield 99) 3 15 := ⟨by decide +kernel, rfl⟩
theorem e_X11_unlike_15 : kk_dj cX11_unlike 15 (.ifCond .ne 6) 3 (6) 18 21 := ⟨by decide +kernel, rfl, by decide⟩
theorem e_X11_unlike_21 : kk_d cX11_unlike 21 (.iload_n 1) 1 22 := ⟨by decide +kernel, rfl⟩
theorem e_X11_unlike_22 : kk_dj cX11_unlike 22 (.ifCond .ne 10) 3 (10) 25 32 := ⟨by decide +kernel, rfl, by decide⟩
theorem e_X11_unlike_44 : kk_d cX11_unlike 44 .ireturn 1 45 := ⟨by decide +kernel, rfl⟩
theorem e_X11_unlike_32 : kk_d cX11_unlike 32 (.aload_n 0) 1 33 := ⟨by decide +kernel, rfl⟩
theorem e_X11_unlike_33 : kk_d cX11_unlike 33 (.invokevirtual 317) 3 36 := ⟨by decide +kernel, rfl⟩
theorem e_X11_unlike_36 : kk_dj cX11_unlike 36 (.ifCond .eq 7) 3 (7) 39 43 := ⟨by decide +kernel, rfl, by decide⟩
theorem e_X11_unlike_43 : kk_d cX11_unlike 43 (.iconst 0) 1 44 := ⟨by decide +kernel, rfl⟩
theorem e_X11_unlike_39 : kk_d cX11_unlike 39 (.iconst 1) 1 40 := ⟨by decide +kernel, rfl⟩
theorem e_X11_unlike_40 : kk_dj cX11_unlike 40 (.goto 4) 3 (4) 43 44 := ⟨by decide +kernel, rfl, by decide⟩
theorem e_X11_unlike_25 : kk_d cX11_unlike 25 (.aload_n 0) 1 26 := ⟨by decide +kernel, rfl⟩
theorem e_X11_unlike_26 : kk_d cX11_unlike 26 (.invokevirtual 314) 3 29 := ⟨by decide +kernel, rfl⟩
theorem e_X11_unlike_29 : kk_dj cX11_unlike 29 (.goto 15) 3 (15) 32 44 := ⟨by decide +kernel, rfl, by decide⟩
theorem e_X11_unlike_18 : kk_d cX11_unlike 18 (.bipush (-2)) 2 20 := ⟨by decide +kernel, rfl⟩
theorem e_X11_unlike_20 : kk_d cX11_unlike 20 .ireturn 1 21 := ⟨by decide +kernel, rfl⟩
theorem e_X11_unlike_9 : kk_d cX11_unlike 9 (.iconst (-1)) 1 10 := ⟨by decide +kernel, rfl⟩
theorem e_X11_unlike_10 : kk_d cX11_unlike 10 .ireturn 1 11 := ⟨by decide +kernel, rfl⟩
set_option maxRecDepth 4000 in
theorem s_X11_unlike (Z : kk_Z) (v1 : Int32) (σ : kk_St) (Q : Int32 → Prop) (h : f_X11_unlike v1 σ Q) : kk_M Z sh_M yX11_unlike cX11_unlike 2 (some .int) (kk_R 3) [.ref (Z.2.1 0), .int v1] σ (kk_Qi Z sh_M (fun r σ' => σ' = σ ∧ Q r)) := by
  unfold f_X11_unlike at h
  refine kk_met (own := RX11) (by decide) rfl (Nat.le_of_ble_eq_true rfl) rfl ?_
  refine kk_iload_n 1 rfl e_X11_unlike_0 ?_
  refine kk_iconst ic_0 e_X11_unlike_1 ?_
  refine kk_iconst ic_1 e_X11_unlike_2 ?_
  refine kk_callSip (As := [.int v1, .int (0 : Int32), .int (1 : Int32)]) (rest := []) e_X11_unlike_3 ml_X11_92 rfl (kk_fitR (by decide) (by decide)) (Nat.le_of_ble_eq_true rfl) rfl (s_X11_in Z v1 (0 : Int32) (1 : Int32) σ _ h) (fun r_1 h => ?_)
  refine kk_if_ne e_X11_unlike_6 (fun c_9 => ?_) (fun c_9 => ?_)
  · replace h := h.1 c_9
    refine kk_aload_n 0 rfl e_X11_unlike_11 ?_
    refine kk_geti e_X11_unlike_12 fl_X11_99 rfl rfl ?_
    refine kk_if_ne e_X11_unlike_15 (fun c_8 => ?_) (fun c_8 => ?_)
    · replace h := h.1 c_8
      refine kk_iload_n 1 rfl e_X11_unlike_21 ?_
      refine kk_jW1 (P := fun (t_2 : Int32) => KK Z sh_M RX11 cX11_unlike 2 (some .int) (kk_R 3) (kk_Qi Z sh_M (fun r σ' => σ' = σ ∧ Q r)) 44 [] [.int t_2] σ) h ?_ ?_
      · intro t_2 h
        exact kk_iret e_X11_unlike_44 ⟨rfl, h⟩
      · intro J_3 hJ_3 h
        refine kk_if_ne e_X11_unlike_22 (fun c_7 => ?_) (fun c_7 => ?_)
        · replace h := h.1 c_7
          refine kk_aload_n 0 rfl e_X11_unlike_32 ?_
          refine kk_callVip (As := []) (rest := []) e_X11_unlike_33 ml_X11_317 ⟨_, _, _, _, rfl, rfl⟩ rfl (kk_fitR (by decide) (by decide)) (Nat.le_of_ble_eq_true rfl) rfl (s_X11_areLike Z σ _ h) (fun r_4 h => ?_)
          refine kk_if_eq e_X11_unlike_36 (fun c_5 => ?_) (fun c_5 => ?_)
          · replace h := h.1 c_5
            refine kk_iconst ic_0 e_X11_unlike_43 ?_
            exact kk_sub [] rfl (hJ_3 (0 : Int32) h)
          · replace h := h.2 c_5
            refine kk_iconst ic_1 e_X11_unlike_39 ?_
            refine kk_goto e_X11_unlike_40 ?_
            exact kk_sub [] rfl (hJ_3 (1 : Int32) h)
        · replace h := h.2 c_7
          refine kk_aload_n 0 rfl e_X11_unlike_25 ?_
          refine kk_callVip (As := []) (rest := []) e_X11_unlike_26 ml_X11_314 ⟨_, _, _, _, rfl, rfl⟩ rfl (kk_fitR (by decide) (by decide)) (Nat.le_of_ble_eq_true rfl) rfl (s_X11_unlikeMany Z σ _ h) (fun r_6 h => ?_)
          refine kk_goto e_X11_unlike_29 ?_
          exact kk_sub [] rfl (hJ_3 r_6 h)
    · replace h := h.2 c_8
      refine kk_bipush bp_m2 e_X11_unlike_18 ?_
      exact kk_iret e_X11_unlike_20 ⟨rfl, h⟩
  · replace h := h.2 c_9
    refine kk_iconst ic_m1 e_X11_unlike_9 ?_
    exact kk_iret e_X11_unlike_10 ⟨rfl, h⟩
theorem e_X11_ways_0 : kk_d cX11_ways 0 (.iload_n 1) 1 1 := ⟨by decide +kernel, rfl⟩
theorem e_X11_ways_1 : kk_d cX11_ways 1 (.iconst 0) 1 2 := ⟨by decide +kernel, rfl⟩
theorem e_X11_ways_2 : kk_d cX11_ways 2 (.bipush 9) 2 4 := ⟨by decide +kernel, rfl⟩
theorem e_X11_ways_4 : kk_d cX11_ways 4 (.invokestatic 92) 3 7 := ⟨by decide +kernel, rfl⟩
theorem e_X11_ways_7 : kk_dj cX11_ways 7 (.ifCond .ne 7) 3 (7) 10 14 := ⟨by decide +kernel, rfl, by decide⟩
theorem e_X11_ways_14 : kk_d cX11_ways 14 (.aload_n 0) 1 15 := ⟨by decide +kernel, rfl⟩
theorem e_X11_ways_15 : kk_d cX11_ways 15 (.getfield 96) 3 18 := ⟨by decide +kernel, rfl⟩
theorem e_X11_ways_18 : kk_d cX11_ways 18 (.bipush 9) 2 20 := ⟨by decide +kernel, rfl⟩
theorem e_X11_ways_20 : kk_dj cX11_ways 20 (.if_icmp .le 7) 3 (7) 23 27 := ⟨by decide +kernel, rfl, by decide⟩
theorem e_X11_ways_27 : kk_d cX11_ways 27 (.aload_n 0) 1 28 := ⟨by decide +kernel, rfl⟩
theorem e_X11_ways_28 : kk_d cX11_ways 28 (.invokevirtual 272) 3 31 := ⟨by decide +kernel, rfl⟩
theorem e_X11_ways_31 : kk_d cX11_ways 31 (.lconst 0) 1 32 := ⟨by decide +kernel, rfl⟩
theorem e_X11_ways_32 : kk_d cX11_ways 32 (.lstore_n 2) 1 33 := ⟨by decide +kernel, rfl⟩
theorem e_X11_ways_33 : kk_d cX11_ways 33 (.iconst 0) 1 34 := ⟨by decide +kernel, rfl⟩
theorem e_X11_ways_34 : kk_d cX11_ways 34 (.istore 4) 2 36 := ⟨by decide +kernel, rfl⟩
theorem e_X11_ways_36 : kk_d cX11_ways 36 (.iload 4) 2 38 := ⟨by decide +kernel, rfl⟩
theorem e_X11_ways_38 : kk_d cX11_ways 38 (.aload_n 0) 1 39 := ⟨by decide +kernel, rfl⟩
theorem e_X11_ways_39 : kk_d cX11_ways 39 (.getfield 96) 3 42 := ⟨by decide +kernel, rfl⟩
theorem e_X11_ways_42 : kk_dj cX11_ways 42 (.if_icmp .gt 51) 3 (51) 45 93 := ⟨by decide +kernel, rfl, by decide⟩
theorem e_X11_ways_93 : kk_d cX11_ways 93 (.lload_n 2) 1 94 := ⟨by decide +kernel, rfl⟩
theorem e_X11_ways_94 : kk_d cX11_ways 94 .lreturn 1 95 := ⟨by decide +kernel, rfl⟩
theorem e_X11_ways_45 : kk_d cX11_ways 45 (.lconst 1) 1 46 := ⟨by decide +kernel, rfl⟩
theorem e_X11_ways_46 : kk_d cX11_ways 46 (.lstore 5) 2 48 := ⟨by decide +kernel, rfl⟩
theorem e_X11_ways_48 : kk_d cX11_ways 48 (.iconst 0) 1 49 := ⟨by decide +kernel, rfl⟩
theorem e_X11_ways_49 : kk_d cX11_ways 49 (.istore 7) 2 51 := ⟨by decide +kernel, rfl⟩
theorem e_X11_ways_51 : kk_d cX11_ways 51 (.iload 7) 2 53 := ⟨by decide +kernel, rfl⟩
theorem e_X11_ways_53 : kk_d cX11_ways 53 (.iload 4) 2 55 := ⟨by decide +kernel, rfl⟩
theorem e_X11_ways_55 : kk_dj cX11_ways 55 (.if_icmp .ge 19) 3 (19) 58 74 := ⟨by decide +kernel, rfl, by decide⟩
theorem e_X11_ways_74 : kk_d cX11_ways 74 (.lload_n 2) 1 75 := ⟨by decide +kernel, rfl⟩
theorem e_X11_ways_75 : kk_d cX11_ways 75 (.aload_n 0) 1 76 := ⟨by decide +kernel, rfl⟩
theorem e_X11_ways_76 : kk_d cX11_ways 76 (.getfield 73) 3 79 := ⟨by decide +kernel, rfl⟩
theorem e_X11_ways_79 : kk_d cX11_ways 79 (.iload 4) 2 81 := ⟨by decide +kernel, rfl⟩
theorem e_X11_ways_81 : kk_d cX11_ways 81 .laload 1 82 := ⟨by decide +kernel, rfl⟩
theorem e_X11_ways_82 : kk_d cX11_ways 82 (.lload 5) 2 84 := ⟨by decide +kernel, rfl⟩
theorem e_X11_ways_84 : kk_d cX11_ways 84 .lmul 1 85 := ⟨by decide +kernel, rfl⟩
theorem e_X11_ways_85 : kk_d cX11_ways 85 .ladd 1 86 := ⟨by decide +kernel, rfl⟩
theorem e_X11_ways_86 : kk_d cX11_ways 86 (.lstore_n 2) 1 87 := ⟨by decide +kernel, rfl⟩
theorem e_X11_ways_87 : kk_d cX11_ways 87 (.iinc 4 1) 3 90 := ⟨by decide +kernel, rfl⟩
theorem e_X11_ways_90 : kk_dj cX11_ways 90 (.goto (-54)) 3 (-54) 93 36 := ⟨by decide +kernel, rfl, by decide⟩
theorem e_X11_ways_58 : kk_d cX11_ways 58 (.lload 5) 2 60 := ⟨by decide +kernel, rfl⟩
theorem e_X11_ways_60 : kk_d cX11_ways 60 (.iload_n 1) 1 61 := ⟨by decide +kernel, rfl⟩
theorem e_X11_ways_61 : kk_d cX11_ways 61 (.iload 7) 2 63 := ⟨by decide +kernel, rfl⟩
theorem e_X11_ways_63 : kk_d cX11_ways 63 .isub 1 64 := ⟨by decide +kernel, rfl⟩
theorem e_X11_ways_64 : kk_d cX11_ways 64 .i2l 1 65 := ⟨by decide +kernel, rfl⟩
theorem e_X11_ways_65 : kk_d cX11_ways 65 .lmul 1 66 := ⟨by decide +kernel, rfl⟩
theorem e_X11_ways_66 : kk_d cX11_ways 66 (.lstore 5) 2 68 := ⟨by decide +kernel, rfl⟩
theorem e_X11_ways_68 : kk_d cX11_ways 68 (.iinc 7 1) 3 71 := ⟨by decide +kernel, rfl⟩
theorem e_X11_ways_71 : kk_dj cX11_ways 71 (.goto (-20)) 3 (-20) 74 51 := ⟨by decide +kernel, rfl, by decide⟩
theorem e_X11_ways_23 : kk_d cX11_ways 23 (.ldc2_w 270) 3 26 := ⟨by decide +kernel, rfl⟩
theorem e_X11_ways_26 : kk_d cX11_ways 26 .lreturn 1 27 := ⟨by decide +kernel, rfl⟩
theorem e_X11_ways_10 : kk_d cX11_ways 10 (.ldc2_w 268) 3 13 := ⟨by decide +kernel, rfl⟩
theorem e_X11_ways_13 : kk_d cX11_ways 13 .lreturn 1 14 := ⟨by decide +kernel, rfl⟩
set_option maxRecDepth 4000 in
theorem s_X11_ways (Z : kk_Z) (v1 : Int32) (σ : kk_St) (Q : Int64 → kk_St → Prop) (h : f_X11_ways v1 σ Q) : kk_M Z sh_M yX11_ways cX11_ways 8 (some .long) (kk_R 6) [.ref (Z.2.1 0), .int v1] σ (kk_Ql Z sh_M Q) := by
  unfold f_X11_ways at h
  refine kk_met (own := RX11) (by decide) rfl (Nat.le_of_ble_eq_true rfl) rfl ?_
  refine kk_iload_n 1 rfl e_X11_ways_0 ?_
  refine kk_iconst ic_0 e_X11_ways_1 ?_
  refine kk_bipush bp_9 e_X11_ways_2 ?_
  refine kk_callSip (As := [.int v1, .int (0 : Int32), .int (9 : Int32)]) (rest := []) e_X11_ways_4 ml_X11_92 rfl (kk_fitR (by decide) (by decide)) (Nat.le_of_ble_eq_true rfl) rfl (s_X11_in Z v1 (0 : Int32) (9 : Int32) σ _ h) (fun r_1 h => ?_)
  refine kk_if_ne e_X11_ways_7 (fun c_14 => ?_) (fun c_14 => ?_)
  · replace h := h.1 c_14
    refine kk_aload_n 0 rfl e_X11_ways_14 ?_
    refine kk_geti e_X11_ways_15 fl_X11_96 rfl rfl ?_
    refine kk_bipush bp_9 e_X11_ways_18 ?_
    refine kk_icmp_le e_X11_ways_20 (fun c_13 => ?_) (fun c_13 => ?_)
    · replace h := h.1 c_13
      refine kk_aload_n 0 rfl e_X11_ways_27 ?_
      refine kk_callVv (As := []) (rest := []) e_X11_ways_28 ml_X11_272 ⟨_, _, _, _, rfl, rfl⟩ rfl (kk_fitR (by decide) (by decide)) (Nat.le_of_ble_eq_true rfl) rfl (s_X11_laysParted Z σ _ h) (fun σ_2 h => ?_)
      refine kk_lconst lc_0 e_X11_ways_31 ?_
      refine kk_lstore_n (lv' := [(2, .long (0 : Int64)), (0, .ref (Z.2.1 0)), (1, .int v1)]) e_X11_ways_32 rfl (by decide) rfl ?_
      refine kk_iconst ic_0 e_X11_ways_33 ?_
      refine kk_istore (lv' := [(4, .int (0 : Int32)), (2, .long (0 : Int64)), (0, .ref (Z.2.1 0)), (1, .int v1)]) e_X11_ways_34 (by decide) rfl ?_
      refine kk_sub [2, 3, 1, 0] rfl ?_
      refine kk_lpW2 (P := fun (v2_3 : Int64) (v4_4 : Int32) => KK Z sh_M RX11 cX11_ways 8 (some .long) (kk_R 6) (kk_Ql Z sh_M Q) 36 [(0, .ref (Z.2.1 0)), (1, .int v1), (2, .long v2_3), (4, .int v4_4)] [] σ_2) ?_ h
      intro rec_5 hrec_5 v2_3 v4_4 h
      refine kk_iload 3 rfl e_X11_ways_36 ?_
      refine kk_aload_n 0 rfl e_X11_ways_38 ?_
      refine kk_geti e_X11_ways_39 fl_X11_96 rfl rfl ?_
      refine kk_icmp_gt e_X11_ways_42 (fun c_12 => ?_) (fun c_12 => ?_)
      · replace h := h.1 c_12
        refine kk_lload_n 2 rfl e_X11_ways_93 ?_
        exact kk_lret e_X11_ways_94 h
      · replace h := h.2 c_12
        refine kk_lconst lc_1 e_X11_ways_45 ?_
        refine kk_lstore (lv' := [(5, .long (1 : Int64)), (0, .ref (Z.2.1 0)), (1, .int v1), (2, .long v2_3), (4, .int v4_4)]) e_X11_ways_46 (by decide) rfl ?_
        refine kk_iconst ic_0 e_X11_ways_48 ?_
        refine kk_istore (lv' := [(7, .int (0 : Int32)), (5, .long (1 : Int64)), (0, .ref (Z.2.1 0)), (1, .int v1), (2, .long v2_3), (4, .int v4_4)]) e_X11_ways_49 (by decide) rfl ?_
        refine kk_sub [2, 3, 4, 5, 1, 0] rfl ?_
        refine kk_lpW2 (P := fun (v5_6 : Int64) (v7_7 : Int32) => KK Z sh_M RX11 cX11_ways 8 (some .long) (kk_R 6) (kk_Ql Z sh_M Q) 51 [(0, .ref (Z.2.1 0)), (1, .int v1), (2, .long v2_3), (4, .int v4_4), (5, .long v5_6), (7, .int v7_7)] [] σ_2) ?_ h
        intro rec_8 hrec_8 v5_6 v7_7 h
        refine kk_iload 5 rfl e_X11_ways_51 ?_
        refine kk_iload 3 rfl e_X11_ways_53 ?_
        refine kk_icmp_ge e_X11_ways_55 (fun c_11 => ?_) (fun c_11 => ?_)
        · replace h := h.1 c_11
          refine kk_lload_n 2 rfl e_X11_ways_74 ?_
          refine kk_aload_n 0 rfl e_X11_ways_75 ?_
          refine kk_getr e_X11_ways_76 fl_X11_73 rfl rfl ?_
          refine kk_iload 3 rfl e_X11_ways_79 ?_
          refine kk_lald e_X11_ways_81 rfl h.1 ?_
          replace h := h.2
          refine kk_lload 4 rfl e_X11_ways_82 ?_
          refine kk_lmul e_X11_ways_84 ?_
          refine kk_ladd e_X11_ways_85 ?_
          refine kk_topl (fun v2_9 ev2_9 => ?_)
          replace h := h v2_9 ev2_9
          refine kk_lstore_n (lv' := [(2, .long v2_9), (0, .ref (Z.2.1 0)), (1, .int v1), (4, .int v4_4), (5, .long v5_6), (7, .int v7_7)]) e_X11_ways_86 rfl (by decide) rfl ?_
          refine kk_iinc (lv' := [(4, .int (v4_4 + (1 : Int32))), (2, .long v2_9), (0, .ref (Z.2.1 0)), (1, .int v1), (5, .long v5_6), (7, .int v7_7)]) e_X11_ways_87 (j := 3) rfl (ii_1 v4_4) (by decide) rfl ?_
          refine kk_goto e_X11_ways_90 ?_
          exact kk_sub [2, 3, 1, 0] rfl (hrec_5 v2_9 (v4_4 + (1 : Int32)) h)
        · replace h := h.2 c_11
          refine kk_lload 4 rfl e_X11_ways_58 ?_
          refine kk_iload_n 1 rfl e_X11_ways_60 ?_
          refine kk_iload 5 rfl e_X11_ways_61 ?_
          refine kk_isub e_X11_ways_63 ?_
          refine kk_i2l e_X11_ways_64 ?_
          refine kk_lmul e_X11_ways_65 ?_
          refine kk_topl (fun v5_10 ev5_10 => ?_)
          replace h := h v5_10 ev5_10
          refine kk_lstore (lv' := [(5, .long v5_10), (0, .ref (Z.2.1 0)), (1, .int v1), (2, .long v2_3), (4, .int v4_4), (7, .int v7_7)]) e_X11_ways_66 (by decide) rfl ?_
          refine kk_iinc (lv' := [(7, .int (v7_7 + (1 : Int32))), (5, .long v5_10), (0, .ref (Z.2.1 0)), (1, .int v1), (2, .long v2_3), (4, .int v4_4)]) e_X11_ways_68 (j := 5) rfl (ii_1 v7_7) (by decide) rfl ?_
          refine kk_goto e_X11_ways_71 ?_
          exact kk_sub [2, 3, 4, 5, 1, 0] rfl (hrec_8 v5_10 (v7_7 + (1 : Int32)) h)
    · replace h := h.2 c_13
      refine kk_ldc2 e_X11_ways_23 cw_X11_270 ?_
      exact kk_lret e_X11_ways_26 h
  · replace h := h.2 c_14
    refine kk_ldc2 e_X11_ways_10 cw_X11_268 ?_
    exact kk_lret e_X11_ways_13 h
