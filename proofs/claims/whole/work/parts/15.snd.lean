theorem e_X11_laysParts_0 : kk_d cX11_laysParts 0 (.aload_n 0) 1 1 := ⟨by decide +kernel, rfl⟩
theorem e_X11_laysParts_1 : kk_d cX11_laysParts 1 (.iconst 0) 1 2 := ⟨by decide +kernel, rfl⟩
theorem e_X11_laysParts_2 : kk_d cX11_laysParts 2 (.putfield 210) 3 5 := ⟨by decide +kernel, rfl⟩
theorem e_X11_laysParts_5 : kk_d cX11_laysParts 5 (.iconst 0) 1 6 := ⟨by decide +kernel, rfl⟩
theorem e_X11_laysParts_6 : kk_d cX11_laysParts 6 (.istore_n 2) 1 7 := ⟨by decide +kernel, rfl⟩
theorem e_X11_laysParts_7 : kk_d cX11_laysParts 7 (.iconst 0) 1 8 := ⟨by decide +kernel, rfl⟩
theorem e_X11_laysParts_8 : kk_d cX11_laysParts 8 (.istore_n 3) 1 9 := ⟨by decide +kernel, rfl⟩
theorem e_X11_laysParts_9 : kk_d cX11_laysParts 9 (.iload_n 3) 1 10 := ⟨by decide +kernel, rfl⟩
theorem e_X11_laysParts_10 : kk_d cX11_laysParts 10 (.aload_n 0) 1 11 := ⟨by decide +kernel, rfl⟩
theorem e_X11_laysParts_11 : kk_d cX11_laysParts 11 (.getfield 21) 3 14 := ⟨by decide +kernel, rfl⟩
theorem e_X11_laysParts_14 : kk_dj cX11_laysParts 14 (.if_icmp .ge 134) 3 (134) 17 148 := ⟨by decide +kernel, rfl, by decide⟩
theorem e_X11_laysParts_148 : kk_d cX11_laysParts 148 .return_ 1 149 := ⟨by decide +kernel, rfl⟩
theorem e_X11_laysParts_17 : kk_d cX11_laysParts 17 (.iload_n 2) 1 18 := ⟨by decide +kernel, rfl⟩
theorem e_X11_laysParts_18 : kk_d cX11_laysParts 18 (.iload_n 3) 1 19 := ⟨by decide +kernel, rfl⟩
theorem e_X11_laysParts_19 : kk_d cX11_laysParts 19 (.invokestatic 11) 3 22 := ⟨by decide +kernel, rfl⟩
theorem e_X11_laysParts_22 : kk_dj cX11_laysParts 22 (.ifCond .eq 6) 3 (6) 25 28 := ⟨by decide +kernel, rfl, by decide⟩
theorem e_X11_laysParts_142 : kk_d cX11_laysParts 142 (.iinc 3 1) 3 145 := ⟨by decide +kernel, rfl⟩
theorem e_X11_laysParts_145 : kk_dj cX11_laysParts 145 (.goto (-136)) 3 (-136) 148 9 := ⟨by decide +kernel, rfl, by decide⟩
theorem e_X11_laysParts_28 : kk_d cX11_laysParts 28 (.iconst 1) 1 29 := ⟨by decide +kernel, rfl⟩
theorem e_X11_laysParts_29 : kk_d cX11_laysParts 29 (.iload_n 3) 1 30 := ⟨by decide +kernel, rfl⟩
theorem e_X11_laysParts_30 : kk_d cX11_laysParts 30 .ishl 1 31 := ⟨by decide +kernel, rfl⟩
theorem e_X11_laysParts_31 : kk_d cX11_laysParts 31 (.istore 4) 2 33 := ⟨by decide +kernel, rfl⟩
theorem e_X11_laysParts_33 : kk_d cX11_laysParts 33 (.iconst 0) 1 34 := ⟨by decide +kernel, rfl⟩
theorem e_X11_laysParts_34 : kk_d cX11_laysParts 34 (.istore 5) 2 36 := ⟨by decide +kernel, rfl⟩
theorem e_X11_laysParts_36 : kk_d cX11_laysParts 36 (.iload 5) 2 38 := ⟨by decide +kernel, rfl⟩
theorem e_X11_laysParts_38 : kk_d cX11_laysParts 38 (.iload 4) 2 40 := ⟨by decide +kernel, rfl⟩
theorem e_X11_laysParts_40 : kk_dj cX11_laysParts 40 (.if_icmp .eq 76) 3 (76) 43 116 := ⟨by decide +kernel, rfl, by decide⟩
theorem e_X11_laysParts_116 : kk_d cX11_laysParts 116 (.iload_n 2) 1 117 := ⟨by decide +kernel, rfl⟩
theorem e_X11_laysParts_117 : kk_d cX11_laysParts 117 (.iload 4) 2 119 := ⟨by decide +kernel, rfl⟩
theorem e_X11_laysParts_119 : kk_d cX11_laysParts 119 .ior 1 120 := ⟨by decide +kernel, rfl⟩
theorem e_X11_laysParts_120 : kk_d cX11_laysParts 120 (.istore_n 2) 1 121 := ⟨by decide +kernel, rfl⟩
theorem e_X11_laysParts_121 : kk_d cX11_laysParts 121 (.aload_n 0) 1 122 := ⟨by decide +kernel, rfl⟩
theorem e_X11_laysParts_122 : kk_d cX11_laysParts 122 (.getfield 67) 3 125 := ⟨by decide +kernel, rfl⟩
theorem e_X11_laysParts_125 : kk_d cX11_laysParts 125 (.aload_n 0) 1 126 := ⟨by decide +kernel, rfl⟩
theorem e_X11_laysParts_126 : kk_d cX11_laysParts 126 (.getfield 210) 3 129 := ⟨by decide +kernel, rfl⟩
theorem e_X11_laysParts_129 : kk_d cX11_laysParts 129 (.iload 4) 2 131 := ⟨by decide +kernel, rfl⟩
theorem e_X11_laysParts_131 : kk_d cX11_laysParts 131 .iastore 1 132 := ⟨by decide +kernel, rfl⟩
theorem e_X11_laysParts_132 : kk_d cX11_laysParts 132 (.aload_n 0) 1 133 := ⟨by decide +kernel, rfl⟩
theorem e_X11_laysParts_133 : kk_d cX11_laysParts 133 .dup 1 134 := ⟨by decide +kernel, rfl⟩
theorem e_X11_laysParts_134 : kk_d cX11_laysParts 134 (.getfield 210) 3 137 := ⟨by decide +kernel, rfl⟩
theorem e_X11_laysParts_137 : kk_d cX11_laysParts 137 (.iconst 1) 1 138 := ⟨by decide +kernel, rfl⟩
theorem e_X11_laysParts_138 : kk_d cX11_laysParts 138 .iadd 1 139 := ⟨by decide +kernel, rfl⟩
theorem e_X11_laysParts_139 : kk_d cX11_laysParts 139 (.putfield 210) 3 142 := ⟨by decide +kernel, rfl⟩
theorem e_X11_laysParts_43 : kk_d cX11_laysParts 43 (.iload 4) 2 45 := ⟨by decide +kernel, rfl⟩
theorem e_X11_laysParts_45 : kk_d cX11_laysParts 45 (.istore 5) 2 47 := ⟨by decide +kernel, rfl⟩
theorem e_X11_laysParts_47 : kk_d cX11_laysParts 47 (.iconst 0) 1 48 := ⟨by decide +kernel, rfl⟩
theorem e_X11_laysParts_48 : kk_d cX11_laysParts 48 (.istore 6) 2 50 := ⟨by decide +kernel, rfl⟩
theorem e_X11_laysParts_50 : kk_d cX11_laysParts 50 (.iload 6) 2 52 := ⟨by decide +kernel, rfl⟩
theorem e_X11_laysParts_52 : kk_d cX11_laysParts 52 (.aload_n 0) 1 53 := ⟨by decide +kernel, rfl⟩
theorem e_X11_laysParts_53 : kk_d cX11_laysParts 53 (.getfield 96) 3 56 := ⟨by decide +kernel, rfl⟩
theorem e_X11_laysParts_56 : kk_dj cX11_laysParts 56 (.if_icmp .ge 57) 3 (57) 59 113 := ⟨by decide +kernel, rfl, by decide⟩
theorem e_X11_laysParts_113 : kk_dj cX11_laysParts 113 (.goto (-77)) 3 (-77) 116 36 := ⟨by decide +kernel, rfl, by decide⟩
theorem e_X11_laysParts_59 : kk_d cX11_laysParts 59 (.iload_n 1) 1 60 := ⟨by decide +kernel, rfl⟩
theorem e_X11_laysParts_60 : kk_d cX11_laysParts 60 (.iload 6) 2 62 := ⟨by decide +kernel, rfl⟩
theorem e_X11_laysParts_62 : kk_d cX11_laysParts 62 (.invokestatic 11) 3 65 := ⟨by decide +kernel, rfl⟩
theorem e_X11_laysParts_65 : kk_dj cX11_laysParts 65 (.ifCond .ne 6) 3 (6) 68 71 := ⟨by decide +kernel, rfl, by decide⟩
theorem e_X11_laysParts_107 : kk_d cX11_laysParts 107 (.iinc 6 1) 3 110 := ⟨by decide +kernel, rfl⟩
theorem e_X11_laysParts_110 : kk_dj cX11_laysParts 110 (.goto (-60)) 3 (-60) 113 50 := ⟨by decide +kernel, rfl, by decide⟩
theorem e_X11_laysParts_71 : kk_d cX11_laysParts 71 (.iconst 1) 1 72 := ⟨by decide +kernel, rfl⟩
theorem e_X11_laysParts_72 : kk_d cX11_laysParts 72 (.aload_n 0) 1 73 := ⟨by decide +kernel, rfl⟩
theorem e_X11_laysParts_73 : kk_d cX11_laysParts 73 (.getfield 24) 3 76 := ⟨by decide +kernel, rfl⟩
theorem e_X11_laysParts_76 : kk_d cX11_laysParts 76 (.iload 6) 2 78 := ⟨by decide +kernel, rfl⟩
theorem e_X11_laysParts_78 : kk_d cX11_laysParts 78 .iaload 1 79 := ⟨by decide +kernel, rfl⟩
theorem e_X11_laysParts_79 : kk_d cX11_laysParts 79 .ishl 1 80 := ⟨by decide +kernel, rfl⟩
theorem e_X11_laysParts_80 : kk_d cX11_laysParts 80 (.iconst 1) 1 81 := ⟨by decide +kernel, rfl⟩
theorem e_X11_laysParts_81 : kk_d cX11_laysParts 81 (.aload_n 0) 1 82 := ⟨by decide +kernel, rfl⟩
theorem e_X11_laysParts_82 : kk_d cX11_laysParts 82 (.getfield 28) 3 85 := ⟨by decide +kernel, rfl⟩
theorem e_X11_laysParts_85 : kk_d cX11_laysParts 85 (.iload 6) 2 87 := ⟨by decide +kernel, rfl⟩
theorem e_X11_laysParts_87 : kk_d cX11_laysParts 87 .iaload 1 88 := ⟨by decide +kernel, rfl⟩
theorem e_X11_laysParts_88 : kk_d cX11_laysParts 88 .ishl 1 89 := ⟨by decide +kernel, rfl⟩
theorem e_X11_laysParts_89 : kk_d cX11_laysParts 89 .ior 1 90 := ⟨by decide +kernel, rfl⟩
theorem e_X11_laysParts_90 : kk_d cX11_laysParts 90 (.istore 7) 2 92 := ⟨by decide +kernel, rfl⟩
theorem e_X11_laysParts_92 : kk_d cX11_laysParts 92 (.iload 4) 2 94 := ⟨by decide +kernel, rfl⟩
theorem e_X11_laysParts_94 : kk_d cX11_laysParts 94 (.iload 7) 2 96 := ⟨by decide +kernel, rfl⟩
theorem e_X11_laysParts_96 : kk_d cX11_laysParts 96 .iand 1 97 := ⟨by decide +kernel, rfl⟩
theorem e_X11_laysParts_97 : kk_dj cX11_laysParts 97 (.ifCond .eq 10) 3 (10) 100 107 := ⟨by decide +kernel, rfl, by decide⟩
theorem e_X11_laysParts_100 : kk_d cX11_laysParts 100 (.iload 4) 2 102 := ⟨by decide +kernel, rfl⟩
theorem e_X11_laysParts_102 : kk_d cX11_laysParts 102 (.iload 7) 2 104 := ⟨by decide +kernel, rfl⟩
theorem e_X11_laysParts_104 : kk_d cX11_laysParts 104 .ior 1 105 := ⟨by decide +kernel, rfl⟩
theorem e_X11_laysParts_105 : kk_d cX11_laysParts 105 (.istore 4) 2 107 := ⟨by decide +kernel, rfl⟩
theorem e_X11_laysParts_68 : kk_dj cX11_laysParts 68 (.goto 39) 3 (39) 71 107 := ⟨by decide +kernel, rfl, by decide⟩
theorem e_X11_laysParts_25 : kk_dj cX11_laysParts 25 (.goto 117) 3 (117) 28 142 := ⟨by decide +kernel, rfl, by decide⟩
set_option maxRecDepth 4000 in
theorem s_X11_laysParts (Z : kk_Z) (v1 : Int32) (σ : kk_St) (Q : kk_St → Prop) (h : f_X11_laysParts v1 σ Q) : kk_M Z sh_M yX11_laysParts cX11_laysParts 8 none (kk_R 3) [.ref (Z.2.1 0), .int v1] σ (kk_Qv Z sh_M Q) := by
  unfold f_X11_laysParts at h
  refine kk_met (own := RX11) (by decide) rfl (Nat.le_of_ble_eq_true rfl) rfl ?_
  refine kk_aload_n 0 rfl e_X11_laysParts_0 ?_
  refine kk_iconst ic_0 e_X11_laysParts_1 ?_
  refine kk_puti e_X11_laysParts_2 fl_X11_210 fn_X11_23 rfl rfl ?_
  refine kk_tops (fun σ_1 eσ_1 => ?_)
  replace h := h σ_1 eσ_1
  refine kk_iconst ic_0 e_X11_laysParts_5 ?_
  refine kk_istore_n (lv' := [(2, .int (0 : Int32)), (0, .ref (Z.2.1 0)), (1, .int v1)]) e_X11_laysParts_6 rfl (by decide) rfl ?_
  refine kk_iconst ic_0 e_X11_laysParts_7 ?_
  refine kk_istore_n (lv' := [(3, .int (0 : Int32)), (2, .int (0 : Int32)), (0, .ref (Z.2.1 0)), (1, .int v1)]) e_X11_laysParts_8 rfl (by decide) rfl ?_
  refine kk_sub [2, 3, 1, 0] rfl ?_
  refine kk_lpW3 (P := fun (v2_2 : Int32) (v3_3 : Int32) (σ_4 : kk_St) => KK Z sh_M RX11 cX11_laysParts 8 none (kk_R 3) (kk_Qv Z sh_M Q) 9 [(0, .ref (Z.2.1 0)), (1, .int v1), (2, .int v2_2), (3, .int v3_3)] [] σ_4) ?_ h
  intro rec_5 hrec_5 v2_2 v3_3 σ_4 h
  refine kk_iload_n 3 rfl e_X11_laysParts_9 ?_
  refine kk_aload_n 0 rfl e_X11_laysParts_10 ?_
  refine kk_geti e_X11_laysParts_11 fl_X11_21 rfl rfl ?_
  refine kk_icmp_ge e_X11_laysParts_14 (fun c_28 => ?_) (fun c_28 => ?_)
  · replace h := h.1 c_28
    exact kk_vret e_X11_laysParts_148 h
  · replace h := h.2 c_28
    refine kk_iload_n 2 rfl e_X11_laysParts_17 ?_
    refine kk_iload_n 3 rfl e_X11_laysParts_18 ?_
    refine kk_callSip (As := [.int v2_2, .int v3_3]) (rest := []) e_X11_laysParts_19 ml_X11_11 rfl (kk_fitR (by decide) (by decide)) (Nat.le_of_ble_eq_true rfl) rfl (s_X11_has Z v2_2 v3_3 σ_4 _ h) (fun r_6 h => ?_)
    refine kk_jW2 (P := fun (v2_7 : Int32) (σ_8 : kk_St) => KK Z sh_M RX11 cX11_laysParts 8 none (kk_R 3) (kk_Qv Z sh_M Q) 142 [(0, .ref (Z.2.1 0)), (1, .int v1), (2, .int v2_7), (3, .int v3_3)] [] σ_8) h ?_ ?_
    · intro v2_7 σ_8 h
      refine kk_iinc (lv' := [(3, .int (v3_3 + (1 : Int32))), (0, .ref (Z.2.1 0)), (1, .int v1), (2, .int v2_7)]) e_X11_laysParts_142 (j := 3) rfl (ii_1 v3_3) (by decide) rfl ?_
      refine kk_goto e_X11_laysParts_145 ?_
      exact kk_sub [1, 2, 3, 0] rfl (hrec_5 v2_7 (v3_3 + (1 : Int32)) σ_8 h)
    · intro J_9 hJ_9 h
      refine kk_if_eq e_X11_laysParts_22 (fun c_27 => ?_) (fun c_27 => ?_)
      · replace h := h.1 c_27
        refine kk_iconst ic_1 e_X11_laysParts_28 ?_
        refine kk_iload_n 3 rfl e_X11_laysParts_29 ?_
        refine kk_ishl e_X11_laysParts_30 ?_
        refine kk_topi (fun v4_10 ev4_10 => ?_)
        replace h := h v4_10 ev4_10
        refine kk_istore (lv' := [(4, .int v4_10), (0, .ref (Z.2.1 0)), (1, .int v1), (2, .int v2_2), (3, .int v3_3)]) e_X11_laysParts_31 (by decide) rfl ?_
        refine kk_iconst ic_0 e_X11_laysParts_33 ?_
        refine kk_istore (lv' := [(5, .int (0 : Int32)), (4, .int v4_10), (0, .ref (Z.2.1 0)), (1, .int v1), (2, .int v2_2), (3, .int v3_3)]) e_X11_laysParts_34 (by decide) rfl ?_
        refine kk_sub [2, 3, 4, 5, 1, 0] rfl ?_
        refine kk_lpW2 (P := fun (v4_11 : Int32) (v5_12 : Int32) => KK Z sh_M RX11 cX11_laysParts 8 none (kk_R 3) (kk_Qv Z sh_M Q) 36 [(0, .ref (Z.2.1 0)), (1, .int v1), (2, .int v2_2), (3, .int v3_3), (4, .int v4_11), (5, .int v5_12)] [] σ_4) ?_ h
        intro rec_13 hrec_13 v4_11 v5_12 h
        refine kk_iload 5 rfl e_X11_laysParts_36 ?_
        refine kk_iload 4 rfl e_X11_laysParts_38 ?_
        refine kk_icmp_eq e_X11_laysParts_40 (fun c_26 => ?_) (fun c_26 => ?_)
        · replace h := h.1 c_26
          refine kk_iload_n 2 rfl e_X11_laysParts_116 ?_
          refine kk_iload 4 rfl e_X11_laysParts_117 ?_
          refine kk_ior e_X11_laysParts_119 ?_
          refine kk_istore_n (lv' := [(2, .int (v2_2 ||| v4_11)), (0, .ref (Z.2.1 0)), (1, .int v1), (3, .int v3_3), (4, .int v4_11), (5, .int v5_12)]) e_X11_laysParts_120 rfl (by decide) rfl ?_
          refine kk_aload_n 1 rfl e_X11_laysParts_121 ?_
          refine kk_getr e_X11_laysParts_122 fl_X11_67 rfl rfl ?_
          refine kk_aload_n 1 rfl e_X11_laysParts_125 ?_
          refine kk_geti e_X11_laysParts_126 fl_X11_210 rfl rfl ?_
          refine kk_iload 4 rfl e_X11_laysParts_129 ?_
          refine kk_iast e_X11_laysParts_131 rfl h.1 ?_
          replace h := h.2
          refine kk_tops (fun σ_14 eσ_14 => ?_)
          replace h := h σ_14 eσ_14
          refine kk_aload_n 1 rfl e_X11_laysParts_132 ?_
          refine kk_dup rfl e_X11_laysParts_133 ?_
          refine kk_geti e_X11_laysParts_134 fl_X11_210 rfl rfl ?_
          refine kk_iconst ic_1 e_X11_laysParts_137 ?_
          refine kk_iadd e_X11_laysParts_138 ?_
          refine kk_puti e_X11_laysParts_139 fl_X11_210 fn_X11_23 rfl rfl ?_
          refine kk_tops (fun σ_15 eσ_15 => ?_)
          replace h := h σ_15 eσ_15
          exact kk_sub [1, 2, 0, 3] rfl (hJ_9 (v2_2 ||| v4_11) σ_15 h)
        · replace h := h.2 c_26
          refine kk_iload 4 rfl e_X11_laysParts_43 ?_
          refine kk_istore (lv' := [(5, .int v4_11), (0, .ref (Z.2.1 0)), (1, .int v1), (2, .int v2_2), (3, .int v3_3), (4, .int v4_11)]) e_X11_laysParts_45 (by decide) rfl ?_
          refine kk_iconst ic_0 e_X11_laysParts_47 ?_
          refine kk_istore (lv' := [(6, .int (0 : Int32)), (5, .int v4_11), (0, .ref (Z.2.1 0)), (1, .int v1), (2, .int v2_2), (3, .int v3_3), (4, .int v4_11)]) e_X11_laysParts_48 (by decide) rfl ?_
          refine kk_sub [2, 3, 4, 5, 6, 1, 0] rfl ?_
          refine kk_lpW2 (P := fun (v4_16 : Int32) (v6_17 : Int32) => KK Z sh_M RX11 cX11_laysParts 8 none (kk_R 3) (kk_Qv Z sh_M Q) 50 [(0, .ref (Z.2.1 0)), (1, .int v1), (2, .int v2_2), (3, .int v3_3), (4, .int v4_16), (5, .int v4_11), (6, .int v6_17)] [] σ_4) ?_ h
          intro rec_18 hrec_18 v4_16 v6_17 h
          refine kk_iload 6 rfl e_X11_laysParts_50 ?_
          refine kk_aload_n 0 rfl e_X11_laysParts_52 ?_
          refine kk_geti e_X11_laysParts_53 fl_X11_96 rfl rfl ?_
          refine kk_icmp_ge e_X11_laysParts_56 (fun c_25 => ?_) (fun c_25 => ?_)
          · replace h := h.1 c_25
            refine kk_goto e_X11_laysParts_113 ?_
            exact kk_sub [0, 1, 2, 3, 4, 5] rfl (hrec_13 v4_16 v4_11 h)
          · replace h := h.2 c_25
            refine kk_iload_n 1 rfl e_X11_laysParts_59 ?_
            refine kk_iload 6 rfl e_X11_laysParts_60 ?_
            refine kk_callSip (As := [.int v1, .int v6_17]) (rest := []) e_X11_laysParts_62 ml_X11_11 rfl (kk_fitR (by decide) (by decide)) (Nat.le_of_ble_eq_true rfl) rfl (s_X11_has Z v1 v6_17 σ_4 _ h) (fun r_19 h => ?_)
            refine kk_jW1 (P := fun (v4_20 : Int32) => KK Z sh_M RX11 cX11_laysParts 8 none (kk_R 3) (kk_Qv Z sh_M Q) 107 [(0, .ref (Z.2.1 0)), (1, .int v1), (2, .int v2_2), (3, .int v3_3), (4, .int v4_20), (5, .int v4_11), (6, .int v6_17)] [] σ_4) h ?_ ?_
            · intro v4_20 h
              refine kk_iinc (lv' := [(6, .int (v6_17 + (1 : Int32))), (0, .ref (Z.2.1 0)), (1, .int v1), (2, .int v2_2), (3, .int v3_3), (4, .int v4_20), (5, .int v4_11)]) e_X11_laysParts_107 (j := 6) rfl (ii_1 v6_17) (by decide) rfl ?_
              refine kk_goto e_X11_laysParts_110 ?_
              exact kk_sub [1, 2, 3, 4, 5, 6, 0] rfl (hrec_18 v4_20 (v6_17 + (1 : Int32)) h)
            · intro J_21 hJ_21 h
              refine kk_if_ne e_X11_laysParts_65 (fun c_24 => ?_) (fun c_24 => ?_)
              · replace h := h.1 c_24
                refine kk_iconst ic_1 e_X11_laysParts_71 ?_
                refine kk_aload_n 0 rfl e_X11_laysParts_72 ?_
                refine kk_getr e_X11_laysParts_73 fl_X11_24 rfl rfl ?_
                refine kk_iload 6 rfl e_X11_laysParts_76 ?_
                refine kk_iald e_X11_laysParts_78 rfl h.1 ?_
                replace h := h.2
                refine kk_ishl e_X11_laysParts_79 ?_
                refine kk_iconst ic_1 e_X11_laysParts_80 ?_
                refine kk_aload_n 0 rfl e_X11_laysParts_81 ?_
                refine kk_getr e_X11_laysParts_82 fl_X11_28 rfl rfl ?_
                refine kk_iload 6 rfl e_X11_laysParts_85 ?_
                refine kk_iald e_X11_laysParts_87 rfl h.1 ?_
                replace h := h.2
                refine kk_ishl e_X11_laysParts_88 ?_
                refine kk_ior e_X11_laysParts_89 ?_
                refine kk_topi (fun v7_22 ev7_22 => ?_)
                replace h := h v7_22 ev7_22
                refine kk_istore (lv' := [(7, .int v7_22), (0, .ref (Z.2.1 0)), (1, .int v1), (2, .int v2_2), (3, .int v3_3), (4, .int v4_16), (5, .int v4_11), (6, .int v6_17)]) e_X11_laysParts_90 (by decide) rfl ?_
                refine kk_iload 5 rfl e_X11_laysParts_92 ?_
                refine kk_iload 0 rfl e_X11_laysParts_94 ?_
                refine kk_iand e_X11_laysParts_96 ?_
                refine kk_if_eq e_X11_laysParts_97 (fun c_23 => ?_) (fun c_23 => ?_)
                · replace h := h.1 c_23
                  exact kk_sub [1, 2, 3, 4, 5, 6, 7] rfl (hJ_21 v4_16 h)
                · replace h := h.2 c_23
                  refine kk_iload 5 rfl e_X11_laysParts_100 ?_
                  refine kk_iload 0 rfl e_X11_laysParts_102 ?_
                  refine kk_ior e_X11_laysParts_104 ?_
                  refine kk_istore (lv' := [(4, .int (v4_16 ||| v7_22)), (7, .int v7_22), (0, .ref (Z.2.1 0)), (1, .int v1), (2, .int v2_2), (3, .int v3_3), (5, .int v4_11), (6, .int v6_17)]) e_X11_laysParts_105 (by decide) rfl ?_
                  exact kk_sub [2, 3, 4, 5, 0, 6, 7] rfl (hJ_21 (v4_16 ||| v7_22) h)
              · replace h := h.2 c_24
                refine kk_goto e_X11_laysParts_68 ?_
                exact kk_sub [0, 1, 2, 3, 4, 5, 6] rfl (hJ_21 v4_16 h)
      · replace h := h.2 c_27
        refine kk_goto e_X11_laysParts_25 ?_
        exact kk_sub [0, 1, 2, 3] rfl (hJ_9 v2_2 σ_4 h)
theorem e_X11_picks_0 : kk_d cX11_picks 0 (.aload_n 0) 1 1 := ⟨by decide +kernel, rfl⟩
theorem e_X11_picks_1 : kk_d cX11_picks 1 (.getfield 58) 3 4 := ⟨by decide +kernel, rfl⟩
theorem e_X11_picks_4 : kk_d cX11_picks 4 (.aload_n 0) 1 5 := ⟨by decide +kernel, rfl⟩
theorem e_X11_picks_5 : kk_d cX11_picks 5 (.getfield 24) 3 8 := ⟨by decide +kernel, rfl⟩
theorem e_X11_picks_8 : kk_d cX11_picks 8 (.iload_n 1) 1 9 := ⟨by decide +kernel, rfl⟩
theorem e_X11_picks_9 : kk_d cX11_picks 9 .iaload 1 10 := ⟨by decide +kernel, rfl⟩
theorem e_X11_picks_10 : kk_d cX11_picks 10 .dup2 1 11 := ⟨by decide +kernel, rfl⟩
theorem e_X11_picks_11 : kk_d cX11_picks 11 .iaload 1 12 := ⟨by decide +kernel, rfl⟩
theorem e_X11_picks_12 : kk_d cX11_picks 12 (.iconst 1) 1 13 := ⟨by decide +kernel, rfl⟩
theorem e_X11_picks_13 : kk_d cX11_picks 13 (.iload_n 2) 1 14 := ⟨by decide +kernel, rfl⟩
theorem e_X11_picks_14 : kk_d cX11_picks 14 .ishl 1 15 := ⟨by decide +kernel, rfl⟩
theorem e_X11_picks_15 : kk_d cX11_picks 15 .ixor 1 16 := ⟨by decide +kernel, rfl⟩
theorem e_X11_picks_16 : kk_d cX11_picks 16 .iastore 1 17 := ⟨by decide +kernel, rfl⟩
theorem e_X11_picks_17 : kk_d cX11_picks 17 (.aload_n 0) 1 18 := ⟨by decide +kernel, rfl⟩
theorem e_X11_picks_18 : kk_d cX11_picks 18 (.getfield 58) 3 21 := ⟨by decide +kernel, rfl⟩
theorem e_X11_picks_21 : kk_d cX11_picks 21 (.aload_n 0) 1 22 := ⟨by decide +kernel, rfl⟩
theorem e_X11_picks_22 : kk_d cX11_picks 22 (.getfield 28) 3 25 := ⟨by decide +kernel, rfl⟩
theorem e_X11_picks_25 : kk_d cX11_picks 25 (.iload_n 1) 1 26 := ⟨by decide +kernel, rfl⟩
theorem e_X11_picks_26 : kk_d cX11_picks 26 .iaload 1 27 := ⟨by decide +kernel, rfl⟩
theorem e_X11_picks_27 : kk_d cX11_picks 27 .dup2 1 28 := ⟨by decide +kernel, rfl⟩
theorem e_X11_picks_28 : kk_d cX11_picks 28 .iaload 1 29 := ⟨by decide +kernel, rfl⟩
theorem e_X11_picks_29 : kk_d cX11_picks 29 (.iconst 1) 1 30 := ⟨by decide +kernel, rfl⟩
theorem e_X11_picks_30 : kk_d cX11_picks 30 (.iload_n 2) 1 31 := ⟨by decide +kernel, rfl⟩
theorem e_X11_picks_31 : kk_d cX11_picks 31 .ishl 1 32 := ⟨by decide +kernel, rfl⟩
theorem e_X11_picks_32 : kk_d cX11_picks 32 .ixor 1 33 := ⟨by decide +kernel, rfl⟩
theorem e_X11_picks_33 : kk_d cX11_picks 33 .iastore 1 34 := ⟨by decide +kernel, rfl⟩
theorem e_X11_picks_34 : kk_d cX11_picks 34 .return_ 1 35 := ⟨by decide +kernel, rfl⟩
set_option maxRecDepth 4000 in
theorem s_X11_picks (Z : kk_Z) (v1 : Int32) (v2 : Int32) (σ : kk_St) (Q : kk_St → Prop) (h : f_X11_picks v1 v2 σ Q) : kk_M Z sh_M yX11_picks cX11_picks 3 none (kk_R 2) [.ref (Z.2.1 0), .int v1, .int v2] σ (kk_Qv Z sh_M Q) := by
  unfold f_X11_picks at h
  refine kk_met (own := RX11) (by decide) rfl (Nat.le_of_ble_eq_true rfl) rfl ?_
  refine kk_aload_n 0 rfl e_X11_picks_0 ?_
  refine kk_getr e_X11_picks_1 fl_X11_58 rfl rfl ?_
  refine kk_aload_n 0 rfl e_X11_picks_4 ?_
  refine kk_getr e_X11_picks_5 fl_X11_24 rfl rfl ?_
  refine kk_iload_n 1 rfl e_X11_picks_8 ?_
  refine kk_iald e_X11_picks_9 rfl h.1 ?_
  replace h := h.2
  refine kk_dup2 rfl rfl e_X11_picks_10 ?_
  refine kk_iald e_X11_picks_11 rfl h.1 ?_
  replace h := h.2
  refine kk_iconst ic_1 e_X11_picks_12 ?_
  refine kk_iload_n 2 rfl e_X11_picks_13 ?_
  refine kk_ishl e_X11_picks_14 ?_
  refine kk_ixor e_X11_picks_15 ?_
  refine kk_iast e_X11_picks_16 rfl h.1 ?_
  replace h := h.2
  refine kk_tops (fun σ_1 eσ_1 => ?_)
  replace h := h σ_1 eσ_1
  refine kk_aload_n 0 rfl e_X11_picks_17 ?_
  refine kk_getr e_X11_picks_18 fl_X11_58 rfl rfl ?_
  refine kk_aload_n 0 rfl e_X11_picks_21 ?_
  refine kk_getr e_X11_picks_22 fl_X11_28 rfl rfl ?_
  refine kk_iload_n 1 rfl e_X11_picks_25 ?_
  refine kk_iald e_X11_picks_26 rfl h.1 ?_
  replace h := h.2
  refine kk_dup2 rfl rfl e_X11_picks_27 ?_
  refine kk_iald e_X11_picks_28 rfl h.1 ?_
  replace h := h.2
  refine kk_iconst ic_1 e_X11_picks_29 ?_
  refine kk_iload_n 2 rfl e_X11_picks_30 ?_
  refine kk_ishl e_X11_picks_31 ?_
  refine kk_ixor e_X11_picks_32 ?_
  refine kk_iast e_X11_picks_33 rfl h.1 ?_
  replace h := h.2
  refine kk_tops (fun σ_2 eσ_2 => ?_)
  replace h := h σ_2 eσ_2
  exact kk_vret e_X11_picks_34 h
theorem e_X11_triesOf_0 : kk_d cX11_triesOf 0 (.aload_n 0) 1 1 := ⟨by decide +kernel, rfl⟩
theorem e_X11_triesOf_1 : kk_d cX11_triesOf 1 (.iload_n 1) 1 2 := ⟨by decide +kernel, rfl⟩
theorem e_X11_triesOf_2 : kk_d cX11_triesOf 2 (.invokevirtual 207) 3 5 := ⟨by decide +kernel, rfl⟩
theorem e_X11_triesOf_5 : kk_d cX11_triesOf 5 (.istore_n 2) 1 6 := ⟨by decide +kernel, rfl⟩
theorem e_X11_triesOf_6 : kk_d cX11_triesOf 6 (.aload_n 0) 1 7 := ⟨by decide +kernel, rfl⟩
theorem e_X11_triesOf_7 : kk_d cX11_triesOf 7 (.getfield 213) 3 10 := ⟨by decide +kernel, rfl⟩
theorem e_X11_triesOf_10 : kk_dj cX11_triesOf 10 (.ifCond .ne 5) 3 (5) 13 15 := ⟨by decide +kernel, rfl, by decide⟩
theorem e_X11_triesOf_15 : kk_d cX11_triesOf 15 (.iconst 0) 1 16 := ⟨by decide +kernel, rfl⟩
theorem e_X11_triesOf_16 : kk_d cX11_triesOf 16 (.istore_n 3) 1 17 := ⟨by decide +kernel, rfl⟩
theorem e_X11_triesOf_17 : kk_d cX11_triesOf 17 (.iconst 0) 1 18 := ⟨by decide +kernel, rfl⟩
theorem e_X11_triesOf_18 : kk_d cX11_triesOf 18 (.istore 4) 2 20 := ⟨by decide +kernel, rfl⟩
theorem e_X11_triesOf_20 : kk_d cX11_triesOf 20 (.iload 4) 2 22 := ⟨by decide +kernel, rfl⟩
theorem e_X11_triesOf_22 : kk_d cX11_triesOf 22 (.aload_n 0) 1 23 := ⟨by decide +kernel, rfl⟩
theorem e_X11_triesOf_23 : kk_d cX11_triesOf 23 (.getfield 21) 3 26 := ⟨by decide +kernel, rfl⟩
theorem e_X11_triesOf_26 : kk_dj cX11_triesOf 26 (.if_icmp .ge 19) 3 (19) 29 45 := ⟨by decide +kernel, rfl, by decide⟩
theorem e_X11_triesOf_45 : kk_d cX11_triesOf 45 (.iload_n 2) 1 46 := ⟨by decide +kernel, rfl⟩
theorem e_X11_triesOf_46 : kk_d cX11_triesOf 46 (.iload_n 3) 1 47 := ⟨by decide +kernel, rfl⟩
theorem e_X11_triesOf_47 : kk_d cX11_triesOf 47 (.iconst (-1)) 1 48 := ⟨by decide +kernel, rfl⟩
theorem e_X11_triesOf_48 : kk_d cX11_triesOf 48 .ixor 1 49 := ⟨by decide +kernel, rfl⟩
theorem e_X11_triesOf_49 : kk_d cX11_triesOf 49 .iand 1 50 := ⟨by decide +kernel, rfl⟩
theorem e_X11_triesOf_50 : kk_d cX11_triesOf 50 (.istore 4) 2 52 := ⟨by decide +kernel, rfl⟩
theorem e_X11_triesOf_52 : kk_d cX11_triesOf 52 (.iload_n 2) 1 53 := ⟨by decide +kernel, rfl⟩
theorem e_X11_triesOf_53 : kk_d cX11_triesOf 53 (.iload_n 3) 1 54 := ⟨by decide +kernel, rfl⟩
theorem e_X11_triesOf_54 : kk_d cX11_triesOf 54 .iand 1 55 := ⟨by decide +kernel, rfl⟩
theorem e_X11_triesOf_55 : kk_d cX11_triesOf 55 (.iload 4) 2 57 := ⟨by decide +kernel, rfl⟩
theorem e_X11_triesOf_57 : kk_d cX11_triesOf 57 (.iload 4) 2 59 := ⟨by decide +kernel, rfl⟩
theorem e_X11_triesOf_59 : kk_d cX11_triesOf 59 .ineg 1 60 := ⟨by decide +kernel, rfl⟩
theorem e_X11_triesOf_60 : kk_d cX11_triesOf 60 .iand 1 61 := ⟨by decide +kernel, rfl⟩
theorem e_X11_triesOf_61 : kk_d cX11_triesOf 61 .ior 1 62 := ⟨by decide +kernel, rfl⟩
theorem e_X11_triesOf_62 : kk_d cX11_triesOf 62 .ireturn 1 63 := ⟨by decide +kernel, rfl⟩
theorem e_X11_triesOf_29 : kk_d cX11_triesOf 29 (.iload_n 3) 1 30 := ⟨by decide +kernel, rfl⟩
theorem e_X11_triesOf_30 : kk_d cX11_triesOf 30 (.aload_n 0) 1 31 := ⟨by decide +kernel, rfl⟩
theorem e_X11_triesOf_31 : kk_d cX11_triesOf 31 (.getfield 58) 3 34 := ⟨by decide +kernel, rfl⟩
theorem e_X11_triesOf_34 : kk_d cX11_triesOf 34 (.iload 4) 2 36 := ⟨by decide +kernel, rfl⟩
theorem e_X11_triesOf_36 : kk_d cX11_triesOf 36 .iaload 1 37 := ⟨by decide +kernel, rfl⟩
theorem e_X11_triesOf_37 : kk_d cX11_triesOf 37 .ior 1 38 := ⟨by decide +kernel, rfl⟩
theorem e_X11_triesOf_38 : kk_d cX11_triesOf 38 (.istore_n 3) 1 39 := ⟨by decide +kernel, rfl⟩
theorem e_X11_triesOf_39 : kk_d cX11_triesOf 39 (.iinc 4 1) 3 42 := ⟨by decide +kernel, rfl⟩
theorem e_X11_triesOf_42 : kk_dj cX11_triesOf 42 (.goto (-22)) 3 (-22) 45 20 := ⟨by decide +kernel, rfl, by decide⟩
theorem e_X11_triesOf_13 : kk_d cX11_triesOf 13 (.iload_n 2) 1 14 := ⟨by decide +kernel, rfl⟩
theorem e_X11_triesOf_14 : kk_d cX11_triesOf 14 .ireturn 1 15 := ⟨by decide +kernel, rfl⟩
set_option maxRecDepth 4000 in
theorem s_X11_triesOf (Z : kk_Z) (v1 : Int32) (σ : kk_St) (Q : Int32 → Prop) (h : f_X11_triesOf v1 σ Q) : kk_M Z sh_M yX11_triesOf cX11_triesOf 5 (some .int) (kk_R 3) [.ref (Z.2.1 0), .int v1] σ (kk_Qi Z sh_M (fun r σ' => σ' = σ ∧ Q r)) := by
  unfold f_X11_triesOf at h
  refine kk_met (own := RX11) (by decide) rfl (Nat.le_of_ble_eq_true rfl) rfl ?_
  refine kk_aload_n 0 rfl e_X11_triesOf_0 ?_
  refine kk_iload_n 1 rfl e_X11_triesOf_1 ?_
  refine kk_callVip (As := [.int v1]) (rest := []) e_X11_triesOf_2 ml_X11_207 ⟨_, _, _, _, rfl, rfl⟩ rfl (kk_fitR (by decide) (by decide)) (Nat.le_of_ble_eq_true rfl) rfl (s_X11_waysOf Z v1 σ _ h) (fun r_1 h => ?_)
  refine kk_istore_n (lv' := [(2, .int r_1), (0, .ref (Z.2.1 0)), (1, .int v1)]) e_X11_triesOf_5 rfl (by decide) rfl ?_
  refine kk_aload_n 1 rfl e_X11_triesOf_6 ?_
  refine kk_geti e_X11_triesOf_7 fl_X11_213 rfl rfl ?_
  refine kk_if_ne e_X11_triesOf_10 (fun c_8 => ?_) (fun c_8 => ?_)
  · replace h := h.1 c_8
    refine kk_iconst ic_0 e_X11_triesOf_15 ?_
    refine kk_istore_n (lv' := [(3, .int (0 : Int32)), (2, .int r_1), (0, .ref (Z.2.1 0)), (1, .int v1)]) e_X11_triesOf_16 rfl (by decide) rfl ?_
    refine kk_iconst ic_0 e_X11_triesOf_17 ?_
    refine kk_istore (lv' := [(4, .int (0 : Int32)), (3, .int (0 : Int32)), (2, .int r_1), (0, .ref (Z.2.1 0)), (1, .int v1)]) e_X11_triesOf_18 (by decide) rfl ?_
    refine kk_sub [3, 2, 1, 0] rfl ?_
    refine kk_lpW2 (P := fun (v3_2 : Int32) (v4_3 : Int32) => KK Z sh_M RX11 cX11_triesOf 5 (some .int) (kk_R 3) (kk_Qi Z sh_M (fun r σ' => σ' = σ ∧ Q r)) 20 [(0, .ref (Z.2.1 0)), (2, .int r_1), (3, .int v3_2), (4, .int v4_3)] [] σ) ?_ h
    intro rec_4 hrec_4 v3_2 v4_3 h
    refine kk_iload 3 rfl e_X11_triesOf_20 ?_
    refine kk_aload_n 0 rfl e_X11_triesOf_22 ?_
    refine kk_geti e_X11_triesOf_23 fl_X11_21 rfl rfl ?_
    refine kk_icmp_ge e_X11_triesOf_26 (fun c_7 => ?_) (fun c_7 => ?_)
    · replace h := h.1 c_7
      refine kk_iload_n 1 rfl e_X11_triesOf_45 ?_
      refine kk_iload_n 2 rfl e_X11_triesOf_46 ?_
      refine kk_iconst ic_m1 e_X11_triesOf_47 ?_
      refine kk_ixor e_X11_triesOf_48 ?_
      refine kk_iand e_X11_triesOf_49 ?_
      refine kk_topi (fun v4_5 ev4_5 => ?_)
      replace h := h v4_5 ev4_5
      refine kk_istore (lv' := [(4, .int v4_5), (0, .ref (Z.2.1 0)), (2, .int r_1), (3, .int v3_2)]) e_X11_triesOf_50 (by decide) rfl ?_
      refine kk_iload_n 2 rfl e_X11_triesOf_52 ?_
      refine kk_iload_n 3 rfl e_X11_triesOf_53 ?_
      refine kk_iand e_X11_triesOf_54 ?_
      refine kk_iload 0 rfl e_X11_triesOf_55 ?_
      refine kk_iload 0 rfl e_X11_triesOf_57 ?_
      refine kk_ineg e_X11_triesOf_59 ?_
      refine kk_iand e_X11_triesOf_60 ?_
      refine kk_ior e_X11_triesOf_61 ?_
      exact kk_iret e_X11_triesOf_62 ⟨rfl, h⟩
    · replace h := h.2 c_7
      refine kk_iload_n 2 rfl e_X11_triesOf_29 ?_
      refine kk_aload_n 0 rfl e_X11_triesOf_30 ?_
      refine kk_getr e_X11_triesOf_31 fl_X11_58 rfl rfl ?_
      refine kk_iload 3 rfl e_X11_triesOf_34 ?_
      refine kk_iald e_X11_triesOf_36 rfl h.1 ?_
      replace h := h.2
      refine kk_ior e_X11_triesOf_37 ?_
      refine kk_topi (fun v3_6 ev3_6 => ?_)
      replace h := h v3_6 ev3_6
      refine kk_istore_n (lv' := [(3, .int v3_6), (0, .ref (Z.2.1 0)), (2, .int r_1), (4, .int v4_3)]) e_X11_triesOf_38 rfl (by decide) rfl ?_
      refine kk_iinc (lv' := [(4, .int (v4_3 + (1 : Int32))), (3, .int v3_6), (0, .ref (Z.2.1 0)), (2, .int r_1)]) e_X11_triesOf_39 (j := 3) rfl (ii_1 v4_3) (by decide) rfl ?_
      refine kk_goto e_X11_triesOf_42 ?_
      exact kk_sub [2, 3, 1, 0] rfl (hrec_4 v3_6 (v4_3 + (1 : Int32)) h)
  · replace h := h.2 c_8
    refine kk_iload_n 0 rfl e_X11_triesOf_13 ?_
    exact kk_iret e_X11_triesOf_14 ⟨rfl, h⟩
theorem e_X11_canGoOn_0 : kk_d cX11_canGoOn 0 (.iconst 0) 1 1 := ⟨by decide +kernel, rfl⟩
theorem e_X11_canGoOn_1 : kk_d cX11_canGoOn 1 (.istore_n 2) 1 2 := ⟨by decide +kernel, rfl⟩
theorem e_X11_canGoOn_2 : kk_d cX11_canGoOn 2 (.iload_n 2) 1 3 := ⟨by decide +kernel, rfl⟩
theorem e_X11_canGoOn_3 : kk_d cX11_canGoOn 3 (.bipush 9) 2 5 := ⟨by decide +kernel, rfl⟩
theorem e_X11_canGoOn_5 : kk_dj cX11_canGoOn 5 (.if_icmp .ge 16) 3 (16) 8 21 := ⟨by decide +kernel, rfl, by decide⟩
theorem e_X11_canGoOn_21 : kk_d cX11_canGoOn 21 (.iconst 0) 1 22 := ⟨by decide +kernel, rfl⟩
theorem e_X11_canGoOn_22 : kk_d cX11_canGoOn 22 (.istore_n 2) 1 23 := ⟨by decide +kernel, rfl⟩
theorem e_X11_canGoOn_23 : kk_d cX11_canGoOn 23 (.iconst 0) 1 24 := ⟨by decide +kernel, rfl⟩
theorem e_X11_canGoOn_24 : kk_d cX11_canGoOn 24 (.istore_n 3) 1 25 := ⟨by decide +kernel, rfl⟩
theorem e_X11_canGoOn_25 : kk_d cX11_canGoOn 25 (.iload_n 3) 1 26 := ⟨by decide +kernel, rfl⟩
theorem e_X11_canGoOn_26 : kk_d cX11_canGoOn 26 (.aload_n 0) 1 27 := ⟨by decide +kernel, rfl⟩
theorem e_X11_canGoOn_27 : kk_d cX11_canGoOn 27 (.getfield 96) 3 30 := ⟨by decide +kernel, rfl⟩
theorem e_X11_canGoOn_30 : kk_dj cX11_canGoOn 30 (.if_icmp .ge 65) 3 (65) 33 95 := ⟨by decide +kernel, rfl, by decide⟩
theorem e_X11_canGoOn_95 : kk_d cX11_canGoOn 95 (.aload_n 0) 1 96 := ⟨by decide +kernel, rfl⟩
theorem e_X11_canGoOn_96 : kk_d cX11_canGoOn 96 (.iload_n 1) 1 97 := ⟨by decide +kernel, rfl⟩
theorem e_X11_canGoOn_97 : kk_d cX11_canGoOn 97 (.invokevirtual 222) 3 100 := ⟨by decide +kernel, rfl⟩
theorem e_X11_canGoOn_100 : kk_d cX11_canGoOn 100 (.iconst 0) 1 101 := ⟨by decide +kernel, rfl⟩
theorem e_X11_canGoOn_101 : kk_d cX11_canGoOn 101 (.istore_n 3) 1 102 := ⟨by decide +kernel, rfl⟩
theorem e_X11_canGoOn_102 : kk_d cX11_canGoOn 102 (.aload_n 0) 1 103 := ⟨by decide +kernel, rfl⟩
theorem e_X11_canGoOn_103 : kk_d cX11_canGoOn 103 (.iload_n 1) 1 104 := ⟨by decide +kernel, rfl⟩
theorem e_X11_canGoOn_104 : kk_d cX11_canGoOn 104 (.invokevirtual 226) 3 107 := ⟨by decide +kernel, rfl⟩
theorem e_X11_canGoOn_107 : kk_d cX11_canGoOn 107 (.istore 4) 2 109 := ⟨by decide +kernel, rfl⟩
theorem e_X11_canGoOn_109 : kk_d cX11_canGoOn 109 (.iload 4) 2 111 := ⟨by decide +kernel, rfl⟩
theorem e_X11_canGoOn_111 : kk_d cX11_canGoOn 111 (.iconst (-1)) 1 112 := ⟨by decide +kernel, rfl⟩
theorem e_X11_canGoOn_112 : kk_dj cX11_canGoOn 112 (.if_icmp .ne 7) 3 (7) 115 119 := ⟨by decide +kernel, rfl, by decide⟩
theorem e_X11_canGoOn_120 : kk_d cX11_canGoOn 120 (.istore 5) 2 122 := ⟨by decide +kernel, rfl⟩
theorem e_X11_canGoOn_122 : kk_d cX11_canGoOn 122 (.iload 5) 2 124 := ⟨by decide +kernel, rfl⟩
theorem e_X11_canGoOn_124 : kk_dj cX11_canGoOn 124 (.ifCond .ne 13) 3 (13) 127 137 := ⟨by decide +kernel, rfl, by decide⟩
theorem e_X11_canGoOn_137 : kk_d cX11_canGoOn 137 (.iload 5) 2 139 := ⟨by decide +kernel, rfl⟩
theorem e_X11_canGoOn_139 : kk_dj cX11_canGoOn 139 (.ifCond .ne 23) 3 (23) 142 162 := ⟨by decide +kernel, rfl, by decide⟩
theorem e_X11_canGoOn_342 : kk_d cX11_canGoOn 342 (.iconst 0) 1 343 := ⟨by decide +kernel, rfl⟩
theorem e_X11_canGoOn_343 : kk_d cX11_canGoOn 343 (.istore 6) 2 345 := ⟨by decide +kernel, rfl⟩
theorem e_X11_canGoOn_345 : kk_d cX11_canGoOn 345 (.iload 6) 2 347 := ⟨by decide +kernel, rfl⟩
theorem e_X11_canGoOn_347 : kk_d cX11_canGoOn 347 (.aload_n 0) 1 348 := ⟨by decide +kernel, rfl⟩
theorem e_X11_canGoOn_348 : kk_d cX11_canGoOn 348 (.getfield 96) 3 351 := ⟨by decide +kernel, rfl⟩
theorem e_X11_canGoOn_351 : kk_dj cX11_canGoOn 351 (.if_icmp .ge 26) 3 (26) 354 377 := ⟨by decide +kernel, rfl, by decide⟩
theorem e_X11_canGoOn_377 : kk_d cX11_canGoOn 377 (.iload 5) 2 379 := ⟨by decide +kernel, rfl⟩
theorem e_X11_canGoOn_379 : kk_d cX11_canGoOn 379 .ireturn 1 380 := ⟨by decide +kernel, rfl⟩
theorem e_X11_canGoOn_354 : kk_d cX11_canGoOn 354 (.iload_n 2) 1 355 := ⟨by decide +kernel, rfl⟩
theorem e_X11_canGoOn_355 : kk_d cX11_canGoOn 355 (.iload 6) 2 357 := ⟨by decide +kernel, rfl⟩
theorem e_X11_canGoOn_357 : kk_d cX11_canGoOn 357 (.invokestatic 11) 3 360 := ⟨by decide +kernel, rfl⟩
theorem e_X11_canGoOn_360 : kk_dj cX11_canGoOn 360 (.ifCond .ne 11) 3 (11) 363 371 := ⟨by decide +kernel, rfl, by decide⟩
theorem e_X11_canGoOn_371 : kk_d cX11_canGoOn 371 (.iinc 6 1) 3 374 := ⟨by decide +kernel, rfl⟩
theorem e_X11_canGoOn_374 : kk_dj cX11_canGoOn 374 (.goto (-29)) 3 (-29) 377 345 := ⟨by decide +kernel, rfl, by decide⟩
theorem e_X11_canGoOn_363 : kk_d cX11_canGoOn 363 (.aload_n 0) 1 364 := ⟨by decide +kernel, rfl⟩
theorem e_X11_canGoOn_364 : kk_d cX11_canGoOn 364 (.getfield 55) 3 367 := ⟨by decide +kernel, rfl⟩
theorem e_X11_canGoOn_367 : kk_d cX11_canGoOn 367 (.iload 6) 2 369 := ⟨by decide +kernel, rfl⟩
theorem e_X11_canGoOn_369 : kk_d cX11_canGoOn 369 (.iconst (-1)) 1 370 := ⟨by decide +kernel, rfl⟩
theorem e_X11_canGoOn_370 : kk_d cX11_canGoOn 370 .iastore 1 371 := ⟨by decide +kernel, rfl⟩
theorem e_X11_canGoOn_162 : kk_d cX11_canGoOn 162 (.iload 5) 2 164 := ⟨by decide +kernel, rfl⟩
theorem e_X11_canGoOn_164 : kk_dj cX11_canGoOn 164 (.ifCond .ne 178) 3 (178) 167 342 := ⟨by decide +kernel, rfl, by decide⟩
theorem e_X11_canGoOn_167 : kk_d cX11_canGoOn 167 (.iload_n 3) 1 168 := ⟨by decide +kernel, rfl⟩
theorem e_X11_canGoOn_168 : kk_dj cX11_canGoOn 168 (.ifCond .lt 174) 3 (174) 171 342 := ⟨by decide +kernel, rfl, by decide⟩
theorem e_X11_canGoOn_171 : kk_d cX11_canGoOn 171 (.aload_n 0) 1 172 := ⟨by decide +kernel, rfl⟩
theorem e_X11_canGoOn_172 : kk_d cX11_canGoOn 172 (.getfield 61) 3 175 := ⟨by decide +kernel, rfl⟩
theorem e_X11_canGoOn_175 : kk_d cX11_canGoOn 175 (.iload_n 3) 1 176 := ⟨by decide +kernel, rfl⟩
theorem e_X11_canGoOn_176 : kk_d cX11_canGoOn 176 .iaload 1 177 := ⟨by decide +kernel, rfl⟩
theorem e_X11_canGoOn_177 : kk_d cX11_canGoOn 177 (.istore 6) 2 179 := ⟨by decide +kernel, rfl⟩
theorem e_X11_canGoOn_179 : kk_d cX11_canGoOn 179 (.aload_n 0) 1 180 := ⟨by decide +kernel, rfl⟩
theorem e_X11_canGoOn_180 : kk_d cX11_canGoOn 180 (.getfield 55) 3 183 := ⟨by decide +kernel, rfl⟩
theorem e_X11_canGoOn_183 : kk_d cX11_canGoOn 183 (.iload 6) 2 185 := ⟨by decide +kernel, rfl⟩
theorem e_X11_canGoOn_185 : kk_d cX11_canGoOn 185 .iaload 1 186 := ⟨by decide +kernel, rfl⟩
theorem e_X11_canGoOn_186 : kk_dj cX11_canGoOn 186 (.ifCond .lt 16) 3 (16) 189 202 := ⟨by decide +kernel, rfl, by decide⟩
theorem e_X11_canGoOn_202 : kk_d cX11_canGoOn 202 (.aload_n 0) 1 203 := ⟨by decide +kernel, rfl⟩
theorem e_X11_canGoOn_203 : kk_d cX11_canGoOn 203 (.getfield 55) 3 206 := ⟨by decide +kernel, rfl⟩
theorem e_X11_canGoOn_206 : kk_d cX11_canGoOn 206 (.iload 6) 2 208 := ⟨by decide +kernel, rfl⟩
theorem e_X11_canGoOn_208 : kk_d cX11_canGoOn 208 (.iconst (-1)) 1 209 := ⟨by decide +kernel, rfl⟩
theorem e_X11_canGoOn_209 : kk_d cX11_canGoOn 209 .iastore 1 210 := ⟨by decide +kernel, rfl⟩
theorem e_X11_canGoOn_210 : kk_d cX11_canGoOn 210 (.aload_n 0) 1 211 := ⟨by decide +kernel, rfl⟩
theorem e_X11_canGoOn_211 : kk_d cX11_canGoOn 211 (.getfield 64) 3 214 := ⟨by decide +kernel, rfl⟩
theorem e_X11_canGoOn_214 : kk_d cX11_canGoOn 214 (.iload_n 3) 1 215 := ⟨by decide +kernel, rfl⟩
theorem e_X11_canGoOn_215 : kk_d cX11_canGoOn 215 .iaload 1 216 := ⟨by decide +kernel, rfl⟩
theorem e_X11_canGoOn_216 : kk_dj cX11_canGoOn 216 (.ifCond .ne 9) 3 (9) 219 225 := ⟨by decide +kernel, rfl, by decide⟩
theorem e_X11_canGoOn_225 : kk_d cX11_canGoOn 225 (.aload_n 0) 1 226 := ⟨by decide +kernel, rfl⟩
theorem e_X11_canGoOn_226 : kk_d cX11_canGoOn 226 (.getfield 55) 3 229 := ⟨by decide +kernel, rfl⟩
theorem e_X11_canGoOn_229 : kk_d cX11_canGoOn 229 (.iload 6) 2 231 := ⟨by decide +kernel, rfl⟩
theorem e_X11_canGoOn_231 : kk_d cX11_canGoOn 231 (.aload_n 0) 1 232 := ⟨by decide +kernel, rfl⟩
theorem e_X11_canGoOn_232 : kk_d cX11_canGoOn 232 (.getfield 64) 3 235 := ⟨by decide +kernel, rfl⟩
theorem e_X11_canGoOn_235 : kk_d cX11_canGoOn 235 (.iload_n 3) 1 236 := ⟨by decide +kernel, rfl⟩
theorem e_X11_canGoOn_236 : kk_d cX11_canGoOn 236 .iaload 1 237 := ⟨by decide +kernel, rfl⟩
theorem e_X11_canGoOn_237 : kk_d cX11_canGoOn 237 (.invokestatic 166) 3 240 := ⟨by decide +kernel, rfl⟩
theorem e_X11_canGoOn_240 : kk_d cX11_canGoOn 240 .iastore 1 241 := ⟨by decide +kernel, rfl⟩
theorem e_X11_canGoOn_241 : kk_d cX11_canGoOn 241 (.aload_n 0) 1 242 := ⟨by decide +kernel, rfl⟩
theorem e_X11_canGoOn_242 : kk_d cX11_canGoOn 242 (.getfield 64) 3 245 := ⟨by decide +kernel, rfl⟩
theorem e_X11_canGoOn_245 : kk_d cX11_canGoOn 245 (.iload_n 3) 1 246 := ⟨by decide +kernel, rfl⟩
theorem e_X11_canGoOn_246 : kk_d cX11_canGoOn 246 .dup2 1 247 := ⟨by decide +kernel, rfl⟩
theorem e_X11_canGoOn_247 : kk_d cX11_canGoOn 247 .iaload 1 248 := ⟨by decide +kernel, rfl⟩
theorem e_X11_canGoOn_248 : kk_d cX11_canGoOn 248 (.aload_n 0) 1 249 := ⟨by decide +kernel, rfl⟩
theorem e_X11_canGoOn_249 : kk_d cX11_canGoOn 249 (.getfield 64) 3 252 := ⟨by decide +kernel, rfl⟩
theorem e_X11_canGoOn_252 : kk_d cX11_canGoOn 252 (.iload_n 3) 1 253 := ⟨by decide +kernel, rfl⟩
theorem e_X11_canGoOn_253 : kk_d cX11_canGoOn 253 .iaload 1 254 := ⟨by decide +kernel, rfl⟩
theorem e_X11_canGoOn_254 : kk_d cX11_canGoOn 254 (.iconst 1) 1 255 := ⟨by decide +kernel, rfl⟩
theorem e_X11_canGoOn_255 : kk_d cX11_canGoOn 255 .isub 1 256 := ⟨by decide +kernel, rfl⟩
theorem e_X11_canGoOn_256 : kk_d cX11_canGoOn 256 .iand 1 257 := ⟨by decide +kernel, rfl⟩
theorem e_X11_canGoOn_257 : kk_d cX11_canGoOn 257 .iastore 1 258 := ⟨by decide +kernel, rfl⟩
theorem e_X11_canGoOn_258 : kk_d cX11_canGoOn 258 (.aload_n 0) 1 259 := ⟨by decide +kernel, rfl⟩
theorem e_X11_canGoOn_259 : kk_d cX11_canGoOn 259 (.iload 6) 2 261 := ⟨by decide +kernel, rfl⟩
theorem e_X11_canGoOn_261 : kk_d cX11_canGoOn 261 (.aload_n 0) 1 262 := ⟨by decide +kernel, rfl⟩
theorem e_X11_canGoOn_262 : kk_d cX11_canGoOn 262 (.getfield 55) 3 265 := ⟨by decide +kernel, rfl⟩
theorem e_X11_canGoOn_265 : kk_d cX11_canGoOn 265 (.iload 6) 2 267 := ⟨by decide +kernel, rfl⟩
theorem e_X11_canGoOn_267 : kk_d cX11_canGoOn 267 .iaload 1 268 := ⟨by decide +kernel, rfl⟩
theorem e_X11_canGoOn_268 : kk_d cX11_canGoOn 268 (.invokevirtual 219) 3 271 := ⟨by decide +kernel, rfl⟩
theorem e_X11_canGoOn_271 : kk_d cX11_canGoOn 271 (.aload_n 0) 1 272 := ⟨by decide +kernel, rfl⟩
theorem e_X11_canGoOn_272 : kk_d cX11_canGoOn 272 (.iload_n 1) 1 273 := ⟨by decide +kernel, rfl⟩
theorem e_X11_canGoOn_273 : kk_d cX11_canGoOn 273 (.invokevirtual 226) 3 276 := ⟨by decide +kernel, rfl⟩
theorem e_X11_canGoOn_276 : kk_d cX11_canGoOn 276 (.istore 4) 2 278 := ⟨by decide +kernel, rfl⟩
theorem e_X11_canGoOn_278 : kk_d cX11_canGoOn 278 (.iload 4) 2 280 := ⟨by decide +kernel, rfl⟩
theorem e_X11_canGoOn_280 : kk_d cX11_canGoOn 280 (.iconst (-1)) 1 281 := ⟨by decide +kernel, rfl⟩
theorem e_X11_canGoOn_281 : kk_dj cX11_canGoOn 281 (.if_icmp .ne 7) 3 (7) 284 288 := ⟨by decide +kernel, rfl, by decide⟩
theorem e_X11_canGoOn_289 : kk_d cX11_canGoOn 289 (.istore 5) 2 291 := ⟨by decide +kernel, rfl⟩
theorem e_X11_canGoOn_291 : kk_d cX11_canGoOn 291 (.iload 5) 2 293 := ⟨by decide +kernel, rfl⟩
theorem e_X11_canGoOn_293 : kk_dj cX11_canGoOn 293 (.ifCond .ne (-131)) 3 (-131) 296 162 := ⟨by decide +kernel, rfl, by decide⟩
theorem e_X11_canGoOn_296 : kk_d cX11_canGoOn 296 (.aload_n 0) 1 297 := ⟨by decide +kernel, rfl⟩
theorem e_X11_canGoOn_297 : kk_d cX11_canGoOn 297 (.iload 4) 2 299 := ⟨by decide +kernel, rfl⟩
theorem e_X11_canGoOn_299 : kk_d cX11_canGoOn 299 (.invokevirtual 207) 3 302 := ⟨by decide +kernel, rfl⟩
theorem e_X11_canGoOn_302 : kk_dj cX11_canGoOn 302 (.ifCond .eq (-140)) 3 (-140) 305 162 := ⟨by decide +kernel, rfl, by decide⟩
theorem e_X11_canGoOn_305 : kk_d cX11_canGoOn 305 (.aload_n 0) 1 306 := ⟨by decide +kernel, rfl⟩
theorem e_X11_canGoOn_306 : kk_d cX11_canGoOn 306 (.iload_n 1) 1 307 := ⟨by decide +kernel, rfl⟩
theorem e_X11_canGoOn_307 : kk_d cX11_canGoOn 307 (.invokevirtual 229) 3 310 := ⟨by decide +kernel, rfl⟩
theorem e_X11_canGoOn_310 : kk_dj cX11_canGoOn 310 (.ifCond .ne 6) 3 (6) 313 316 := ⟨by decide +kernel, rfl, by decide⟩
theorem e_X11_canGoOn_316 : kk_d cX11_canGoOn 316 (.iinc 3 1) 3 319 := ⟨by decide +kernel, rfl⟩
theorem e_X11_canGoOn_319 : kk_d cX11_canGoOn 319 (.aload_n 0) 1 320 := ⟨by decide +kernel, rfl⟩
theorem e_X11_canGoOn_320 : kk_d cX11_canGoOn 320 (.getfield 61) 3 323 := ⟨by decide +kernel, rfl⟩
theorem e_X11_canGoOn_323 : kk_d cX11_canGoOn 323 (.iload_n 3) 1 324 := ⟨by decide +kernel, rfl⟩
theorem e_X11_canGoOn_324 : kk_d cX11_canGoOn 324 (.iload 4) 2 326 := ⟨by decide +kernel, rfl⟩
theorem e_X11_canGoOn_326 : kk_d cX11_canGoOn 326 .iastore 1 327 := ⟨by decide +kernel, rfl⟩
theorem e_X11_canGoOn_327 : kk_d cX11_canGoOn 327 (.aload_n 0) 1 328 := ⟨by decide +kernel, rfl⟩
theorem e_X11_canGoOn_328 : kk_d cX11_canGoOn 328 (.getfield 64) 3 331 := ⟨by decide +kernel, rfl⟩
theorem e_X11_canGoOn_331 : kk_d cX11_canGoOn 331 (.iload_n 3) 1 332 := ⟨by decide +kernel, rfl⟩
theorem e_X11_canGoOn_332 : kk_d cX11_canGoOn 332 (.aload_n 0) 1 333 := ⟨by decide +kernel, rfl⟩
theorem e_X11_canGoOn_333 : kk_d cX11_canGoOn 333 (.iload 4) 2 335 := ⟨by decide +kernel, rfl⟩
theorem e_X11_canGoOn_335 : kk_d cX11_canGoOn 335 (.invokevirtual 232) 3 338 := ⟨by decide +kernel, rfl⟩
theorem e_X11_canGoOn_338 : kk_d cX11_canGoOn 338 .iastore 1 339 := ⟨by decide +kernel, rfl⟩
theorem e_X11_canGoOn_339 : kk_dj cX11_canGoOn 339 (.goto (-177)) 3 (-177) 342 162 := ⟨by decide +kernel, rfl, by decide⟩
theorem e_X11_canGoOn_313 : kk_dj cX11_canGoOn 313 (.goto (-151)) 3 (-151) 316 162 := ⟨by decide +kernel, rfl, by decide⟩
theorem e_X11_canGoOn_288 : kk_d cX11_canGoOn 288 (.iconst 0) 1 289 := ⟨by decide +kernel, rfl⟩
theorem e_X11_canGoOn_284 : kk_d cX11_canGoOn 284 (.iconst 1) 1 285 := ⟨by decide +kernel, rfl⟩
theorem e_X11_canGoOn_285 : kk_dj cX11_canGoOn 285 (.goto 4) 3 (4) 288 289 := ⟨by decide +kernel, rfl, by decide⟩
theorem e_X11_canGoOn_219 : kk_d cX11_canGoOn 219 (.iinc 3 (-1)) 3 222 := ⟨by decide +kernel, rfl⟩
theorem e_X11_canGoOn_222 : kk_dj cX11_canGoOn 222 (.goto (-60)) 3 (-60) 225 162 := ⟨by decide +kernel, rfl, by decide⟩
theorem e_X11_canGoOn_189 : kk_d cX11_canGoOn 189 (.aload_n 0) 1 190 := ⟨by decide +kernel, rfl⟩
theorem e_X11_canGoOn_190 : kk_d cX11_canGoOn 190 (.iload 6) 2 192 := ⟨by decide +kernel, rfl⟩
theorem e_X11_canGoOn_192 : kk_d cX11_canGoOn 192 (.aload_n 0) 1 193 := ⟨by decide +kernel, rfl⟩
theorem e_X11_canGoOn_193 : kk_d cX11_canGoOn 193 (.getfield 55) 3 196 := ⟨by decide +kernel, rfl⟩
theorem e_X11_canGoOn_196 : kk_d cX11_canGoOn 196 (.iload 6) 2 198 := ⟨by decide +kernel, rfl⟩
theorem e_X11_canGoOn_198 : kk_d cX11_canGoOn 198 .iaload 1 199 := ⟨by decide +kernel, rfl⟩
theorem e_X11_canGoOn_199 : kk_d cX11_canGoOn 199 (.invokevirtual 219) 3 202 := ⟨by decide +kernel, rfl⟩
theorem e_X11_canGoOn_142 : kk_d cX11_canGoOn 142 (.aload_n 0) 1 143 := ⟨by decide +kernel, rfl⟩
theorem e_X11_canGoOn_143 : kk_d cX11_canGoOn 143 (.getfield 61) 3 146 := ⟨by decide +kernel, rfl⟩
theorem e_X11_canGoOn_146 : kk_d cX11_canGoOn 146 (.iconst 0) 1 147 := ⟨by decide +kernel, rfl⟩
theorem e_X11_canGoOn_147 : kk_d cX11_canGoOn 147 (.iload 4) 2 149 := ⟨by decide +kernel, rfl⟩
theorem e_X11_canGoOn_149 : kk_d cX11_canGoOn 149 .iastore 1 150 := ⟨by decide +kernel, rfl⟩
theorem e_X11_canGoOn_150 : kk_d cX11_canGoOn 150 (.aload_n 0) 1 151 := ⟨by decide +kernel, rfl⟩
theorem e_X11_canGoOn_151 : kk_d cX11_canGoOn 151 (.getfield 64) 3 154 := ⟨by decide +kernel, rfl⟩
theorem e_X11_canGoOn_154 : kk_d cX11_canGoOn 154 (.iconst 0) 1 155 := ⟨by decide +kernel, rfl⟩
theorem e_X11_canGoOn_155 : kk_d cX11_canGoOn 155 (.aload_n 0) 1 156 := ⟨by decide +kernel, rfl⟩
theorem e_X11_canGoOn_156 : kk_d cX11_canGoOn 156 (.iload 4) 2 158 := ⟨by decide +kernel, rfl⟩
theorem e_X11_canGoOn_158 : kk_d cX11_canGoOn 158 (.invokevirtual 232) 3 161 := ⟨by decide +kernel, rfl⟩
theorem e_X11_canGoOn_161 : kk_d cX11_canGoOn 161 .iastore 1 162 := ⟨by decide +kernel, rfl⟩
theorem e_X11_canGoOn_127 : kk_d cX11_canGoOn 127 (.aload_n 0) 1 128 := ⟨by decide +kernel, rfl⟩
theorem e_X11_canGoOn_128 : kk_d cX11_canGoOn 128 (.iload_n 1) 1 129 := ⟨by decide +kernel, rfl⟩
theorem e_X11_canGoOn_129 : kk_d cX11_canGoOn 129 (.invokevirtual 229) 3 132 := ⟨by decide +kernel, rfl⟩
theorem e_X11_canGoOn_132 : kk_dj cX11_canGoOn 132 (.ifCond .ne 5) 3 (5) 135 137 := ⟨by decide +kernel, rfl, by decide⟩
theorem e_X11_canGoOn_135 : kk_d cX11_canGoOn 135 (.iconst 0) 1 136 := ⟨by decide +kernel, rfl⟩
theorem e_X11_canGoOn_136 : kk_d cX11_canGoOn 136 .ireturn 1 137 := ⟨by decide +kernel, rfl⟩
theorem e_X11_canGoOn_119 : kk_d cX11_canGoOn 119 (.iconst 0) 1 120 := ⟨by decide +kernel, rfl⟩
theorem e_X11_canGoOn_115 : kk_d cX11_canGoOn 115 (.iconst 1) 1 116 := ⟨by decide +kernel, rfl⟩
theorem e_X11_canGoOn_116 : kk_dj cX11_canGoOn 116 (.goto 4) 3 (4) 119 120 := ⟨by decide +kernel, rfl, by decide⟩
theorem e_X11_canGoOn_33 : kk_d cX11_canGoOn 33 (.iload_n 1) 1 34 := ⟨by decide +kernel, rfl⟩
theorem e_X11_canGoOn_34 : kk_d cX11_canGoOn 34 (.iload_n 3) 1 35 := ⟨by decide +kernel, rfl⟩
theorem e_X11_canGoOn_35 : kk_d cX11_canGoOn 35 (.invokestatic 11) 3 38 := ⟨by decide +kernel, rfl⟩
theorem e_X11_canGoOn_38 : kk_dj cX11_canGoOn 38 (.ifCond .eq 51) 3 (51) 41 89 := ⟨by decide +kernel, rfl, by decide⟩
theorem e_X11_canGoOn_89 : kk_d cX11_canGoOn 89 (.iinc 3 1) 3 92 := ⟨by decide +kernel, rfl⟩
theorem e_X11_canGoOn_92 : kk_dj cX11_canGoOn 92 (.goto (-67)) 3 (-67) 95 25 := ⟨by decide +kernel, rfl, by decide⟩
theorem e_X11_canGoOn_41 : kk_d cX11_canGoOn 41 (.aload_n 0) 1 42 := ⟨by decide +kernel, rfl⟩
theorem e_X11_canGoOn_42 : kk_d cX11_canGoOn 42 (.getfield 55) 3 45 := ⟨by decide +kernel, rfl⟩
theorem e_X11_canGoOn_45 : kk_d cX11_canGoOn 45 (.iload_n 3) 1 46 := ⟨by decide +kernel, rfl⟩
theorem e_X11_canGoOn_46 : kk_d cX11_canGoOn 46 .iaload 1 47 := ⟨by decide +kernel, rfl⟩
theorem e_X11_canGoOn_47 : kk_dj cX11_canGoOn 47 (.ifCond .ge 6) 3 (6) 50 53 := ⟨by decide +kernel, rfl, by decide⟩
theorem e_X11_canGoOn_53 : kk_d cX11_canGoOn 53 (.aload_n 0) 1 54 := ⟨by decide +kernel, rfl⟩
theorem e_X11_canGoOn_54 : kk_d cX11_canGoOn 54 (.iload_n 3) 1 55 := ⟨by decide +kernel, rfl⟩
theorem e_X11_canGoOn_55 : kk_d cX11_canGoOn 55 (.invokevirtual 207) 3 58 := ⟨by decide +kernel, rfl⟩
theorem e_X11_canGoOn_58 : kk_d cX11_canGoOn 58 (.aload_n 0) 1 59 := ⟨by decide +kernel, rfl⟩
theorem e_X11_canGoOn_59 : kk_d cX11_canGoOn 59 (.getfield 55) 3 62 := ⟨by decide +kernel, rfl⟩
theorem e_X11_canGoOn_62 : kk_d cX11_canGoOn 62 (.iload_n 3) 1 63 := ⟨by decide +kernel, rfl⟩
theorem e_X11_canGoOn_63 : kk_d cX11_canGoOn 63 .iaload 1 64 := ⟨by decide +kernel, rfl⟩
theorem e_X11_canGoOn_64 : kk_d cX11_canGoOn 64 (.invokestatic 11) 3 67 := ⟨by decide +kernel, rfl⟩
theorem e_X11_canGoOn_67 : kk_dj cX11_canGoOn 67 (.ifCond .ne 5) 3 (5) 70 72 := ⟨by decide +kernel, rfl, by decide⟩
theorem e_X11_canGoOn_72 : kk_d cX11_canGoOn 72 (.aload_n 0) 1 73 := ⟨by decide +kernel, rfl⟩
theorem e_X11_canGoOn_73 : kk_d cX11_canGoOn 73 (.iload_n 3) 1 74 := ⟨by decide +kernel, rfl⟩
theorem e_X11_canGoOn_74 : kk_d cX11_canGoOn 74 (.aload_n 0) 1 75 := ⟨by decide +kernel, rfl⟩
theorem e_X11_canGoOn_75 : kk_d cX11_canGoOn 75 (.getfield 55) 3 78 := ⟨by decide +kernel, rfl⟩
theorem e_X11_canGoOn_78 : kk_d cX11_canGoOn 78 (.iload_n 3) 1 79 := ⟨by decide +kernel, rfl⟩
theorem e_X11_canGoOn_79 : kk_d cX11_canGoOn 79 .iaload 1 80 := ⟨by decide +kernel, rfl⟩
theorem e_X11_canGoOn_80 : kk_d cX11_canGoOn 80 (.invokevirtual 219) 3 83 := ⟨by decide +kernel, rfl⟩
theorem e_X11_canGoOn_83 : kk_d cX11_canGoOn 83 (.iload_n 2) 1 84 := ⟨by decide +kernel, rfl⟩
theorem e_X11_canGoOn_84 : kk_d cX11_canGoOn 84 (.iconst 1) 1 85 := ⟨by decide +kernel, rfl⟩
theorem e_X11_canGoOn_85 : kk_d cX11_canGoOn 85 (.iload_n 3) 1 86 := ⟨by decide +kernel, rfl⟩
theorem e_X11_canGoOn_86 : kk_d cX11_canGoOn 86 .ishl 1 87 := ⟨by decide +kernel, rfl⟩
theorem e_X11_canGoOn_87 : kk_d cX11_canGoOn 87 .ior 1 88 := ⟨by decide +kernel, rfl⟩
theorem e_X11_canGoOn_88 : kk_d cX11_canGoOn 88 (.istore_n 2) 1 89 := ⟨by decide +kernel, rfl⟩
theorem e_X11_canGoOn_70 : kk_d cX11_canGoOn 70 (.iconst 0) 1 71 := ⟨by decide +kernel, rfl⟩
theorem e_X11_canGoOn_71 : kk_d cX11_canGoOn 71 .ireturn 1 72 := ⟨by decide +kernel, rfl⟩
theorem e_X11_canGoOn_50 : kk_dj cX11_canGoOn 50 (.goto 39) 3 (39) 53 89 := ⟨by decide +kernel, rfl, by decide⟩
theorem e_X11_canGoOn_8 : kk_d cX11_canGoOn 8 (.aload_n 0) 1 9 := ⟨by decide +kernel, rfl⟩
theorem e_X11_canGoOn_9 : kk_d cX11_canGoOn 9 (.getfield 58) 3 12 := ⟨by decide +kernel, rfl⟩
theorem e_X11_canGoOn_12 : kk_d cX11_canGoOn 12 (.iload_n 2) 1 13 := ⟨by decide +kernel, rfl⟩
theorem e_X11_canGoOn_13 : kk_d cX11_canGoOn 13 (.iconst 0) 1 14 := ⟨by decide +kernel, rfl⟩
theorem e_X11_canGoOn_14 : kk_d cX11_canGoOn 14 .iastore 1 15 := ⟨by decide +kernel, rfl⟩
theorem e_X11_canGoOn_15 : kk_d cX11_canGoOn 15 (.iinc 2 1) 3 18 := ⟨by decide +kernel, rfl⟩
theorem e_X11_canGoOn_18 : kk_dj cX11_canGoOn 18 (.goto (-16)) 3 (-16) 21 2 := ⟨by decide +kernel, rfl, by decide⟩
set_option maxRecDepth 4000 in
theorem s_X11_canGoOn (Z : kk_Z) (v1 : Int32) (σ : kk_St) (Q : Int32 → kk_St → Prop) (h : f_X11_canGoOn v1 σ Q) : kk_M Z sh_M yX11_canGoOn cX11_canGoOn 7 (some .boolean) (kk_R 5) [.ref (Z.2.1 0), .int v1] σ (kk_Qi Z sh_M Q) := by
  unfold f_X11_canGoOn at h
  refine kk_met (own := RX11) (by decide) rfl (Nat.le_of_ble_eq_true rfl) rfl ?_
  refine kk_iconst ic_0 e_X11_canGoOn_0 ?_
  refine kk_istore_n (lv' := [(2, .int (0 : Int32)), (0, .ref (Z.2.1 0)), (1, .int v1)]) e_X11_canGoOn_1 rfl (by decide) rfl ?_
  refine kk_sub [1, 2, 0] rfl ?_
  refine kk_lpW2 (P := fun (v2_1 : Int32) (σ_2 : kk_St) => KK Z sh_M RX11 cX11_canGoOn 7 (some .boolean) (kk_R 5) (kk_Qi Z sh_M Q) 2 [(0, .ref (Z.2.1 0)), (1, .int v1), (2, .int v2_1)] [] σ_2) ?_ h
  intro rec_3 hrec_3 v2_1 σ_2 h
  refine kk_iload_n 2 rfl e_X11_canGoOn_2 ?_
  refine kk_bipush bp_9 e_X11_canGoOn_3 ?_
  refine kk_icmp_ge e_X11_canGoOn_5 (fun c_76 => ?_) (fun c_76 => ?_)
  · replace h := h.1 c_76
    refine kk_iconst ic_0 e_X11_canGoOn_21 ?_
    refine kk_istore_n (lv' := [(2, .int (0 : Int32)), (0, .ref (Z.2.1 0)), (1, .int v1)]) e_X11_canGoOn_22 rfl (by decide) rfl ?_
    refine kk_iconst ic_0 e_X11_canGoOn_23 ?_
    refine kk_istore_n (lv' := [(3, .int (0 : Int32)), (2, .int (0 : Int32)), (0, .ref (Z.2.1 0)), (1, .int v1)]) e_X11_canGoOn_24 rfl (by decide) rfl ?_
    refine kk_sub [2, 3, 1, 0] rfl ?_
    refine kk_lpW3 (P := fun (v2_4 : Int32) (v3_5 : Int32) (σ_6 : kk_St) => KK Z sh_M RX11 cX11_canGoOn 7 (some .boolean) (kk_R 5) (kk_Qi Z sh_M Q) 25 [(0, .ref (Z.2.1 0)), (1, .int v1), (2, .int v2_4), (3, .int v3_5)] [] σ_6) ?_ h
    intro rec_7 hrec_7 v2_4 v3_5 σ_6 h
    refine kk_iload_n 3 rfl e_X11_canGoOn_25 ?_
    refine kk_aload_n 0 rfl e_X11_canGoOn_26 ?_
    refine kk_geti e_X11_canGoOn_27 fl_X11_96 rfl rfl ?_
    refine kk_icmp_ge e_X11_canGoOn_30 (fun c_74 => ?_) (fun c_74 => ?_)
    · replace h := h.1 c_74
      refine kk_aload_n 0 rfl e_X11_canGoOn_95 ?_
      refine kk_iload_n 1 rfl e_X11_canGoOn_96 ?_
      refine kk_callVv (As := [.int v1]) (rest := []) e_X11_canGoOn_97 ml_X11_222 ⟨_, _, _, _, rfl, rfl⟩ rfl (kk_fitR (by decide) (by decide)) (Nat.le_of_ble_eq_true rfl) rfl (s_X11_laysParts Z v1 σ_6 _ h) (fun σ_8 h => ?_)
      refine kk_iconst ic_0 e_X11_canGoOn_100 ?_
      refine kk_istore_n (lv' := [(3, .int (0 : Int32)), (0, .ref (Z.2.1 0)), (1, .int v1), (2, .int v2_4)]) e_X11_canGoOn_101 rfl (by decide) rfl ?_
      refine kk_aload_n 1 rfl e_X11_canGoOn_102 ?_
      refine kk_iload_n 2 rfl e_X11_canGoOn_103 ?_
      refine kk_callVip (As := [.int v1]) (rest := []) e_X11_canGoOn_104 ml_X11_226 ⟨_, _, _, _, rfl, rfl⟩ rfl (kk_fitR (by decide) (by decide)) (Nat.le_of_ble_eq_true rfl) rfl (s_X11_fewestWays Z v1 σ_8 _ h) (fun r_9 h => ?_)
      refine kk_istore (lv' := [(4, .int r_9), (3, .int (0 : Int32)), (0, .ref (Z.2.1 0)), (1, .int v1), (2, .int v2_4)]) e_X11_canGoOn_107 (by decide) rfl ?_
      refine kk_iload 0 rfl e_X11_canGoOn_109 ?_
      refine kk_iconst ic_m1 e_X11_canGoOn_111 ?_
      refine kk_jW1 (P := fun (t_10 : Int32) => KK Z sh_M RX11 cX11_canGoOn 7 (some .boolean) (kk_R 5) (kk_Qi Z sh_M Q) 120 [(0, .ref (Z.2.1 0)), (1, .int v1), (2, .int v2_4), (3, .int (0 : Int32)), (4, .int r_9)] [.int t_10] σ_8) h ?_ ?_
      · intro t_10 h
        refine kk_istore (lv' := [(5, .int t_10), (0, .ref (Z.2.1 0)), (1, .int v1), (2, .int v2_4), (3, .int (0 : Int32)), (4, .int r_9)]) e_X11_canGoOn_120 (by decide) rfl ?_
        refine kk_iload 0 rfl e_X11_canGoOn_122 ?_
        refine kk_jW0 (P := KK Z sh_M RX11 cX11_canGoOn 7 (some .boolean) (kk_R 5) (kk_Qi Z sh_M Q) 137 [(0, .ref (Z.2.1 0)), (1, .int v1), (2, .int v2_4), (3, .int (0 : Int32)), (4, .int r_9), (5, .int t_10)] [] σ_8) h ?_ ?_
        · intro h
          refine kk_iload 5 rfl e_X11_canGoOn_137 ?_
          refine kk_jW1 (P := fun (σ_13 : kk_St) => KK Z sh_M RX11 cX11_canGoOn 7 (some .boolean) (kk_R 5) (kk_Qi Z sh_M Q) 162 [(0, .ref (Z.2.1 0)), (1, .int v1), (2, .int v2_4), (3, .int (0 : Int32)), (5, .int t_10)] [] σ_13) h ?_ ?_
          · intro σ_13 h
            refine kk_jW2 (P := fun (v5_15 : Int32) (σ_16 : kk_St) => KK Z sh_M RX11 cX11_canGoOn 7 (some .boolean) (kk_R 5) (kk_Qi Z sh_M Q) 342 [(0, .ref (Z.2.1 0)), (2, .int v2_4), (5, .int v5_15)] [] σ_16) h ?_ ?_
            · intro v5_15 σ_16 h
              refine kk_iconst ic_0 e_X11_canGoOn_342 ?_
              refine kk_istore (lv' := [(6, .int (0 : Int32)), (0, .ref (Z.2.1 0)), (2, .int v2_4), (5, .int v5_15)]) e_X11_canGoOn_343 (by decide) rfl ?_
              refine kk_sub [1, 2, 3, 0] rfl ?_
              refine kk_lpW2 (P := fun (v6_18 : Int32) (σ_19 : kk_St) => KK Z sh_M RX11 cX11_canGoOn 7 (some .boolean) (kk_R 5) (kk_Qi Z sh_M Q) 345 [(0, .ref (Z.2.1 0)), (2, .int v2_4), (5, .int v5_15), (6, .int v6_18)] [] σ_19) ?_ h
              intro rec_20 hrec_20 v6_18 σ_19 h
              refine kk_iload 3 rfl e_X11_canGoOn_345 ?_
              refine kk_aload_n 0 rfl e_X11_canGoOn_347 ?_
              refine kk_geti e_X11_canGoOn_348 fl_X11_96 rfl rfl ?_
              refine kk_icmp_ge e_X11_canGoOn_351 (fun c_26 => ?_) (fun c_26 => ?_)
              · replace h := h.1 c_26
                refine kk_iload 2 rfl e_X11_canGoOn_377 ?_
                exact kk_zret e_X11_canGoOn_379 h.1 h.2
              · replace h := h.2 c_26
                refine kk_iload_n 1 rfl e_X11_canGoOn_354 ?_
                refine kk_iload 3 rfl e_X11_canGoOn_355 ?_
                refine kk_callSip (As := [.int v2_4, .int v6_18]) (rest := []) e_X11_canGoOn_357 ml_X11_11 rfl (kk_fitR (by decide) (by decide)) (Nat.le_of_ble_eq_true rfl) rfl (s_X11_has Z v2_4 v6_18 σ_19 _ h) (fun r_21 h => ?_)
                refine kk_jW1 (P := fun (σ_22 : kk_St) => KK Z sh_M RX11 cX11_canGoOn 7 (some .boolean) (kk_R 5) (kk_Qi Z sh_M Q) 371 [(0, .ref (Z.2.1 0)), (2, .int v2_4), (5, .int v5_15), (6, .int v6_18)] [] σ_22) h ?_ ?_
                · intro σ_22 h
                  refine kk_iinc (lv' := [(6, .int (v6_18 + (1 : Int32))), (0, .ref (Z.2.1 0)), (2, .int v2_4), (5, .int v5_15)]) e_X11_canGoOn_371 (j := 3) rfl (ii_1 v6_18) (by decide) rfl ?_
                  refine kk_goto e_X11_canGoOn_374 ?_
                  exact kk_sub [1, 2, 3, 0] rfl (hrec_20 (v6_18 + (1 : Int32)) σ_22 h)
                · intro J_23 hJ_23 h
                  refine kk_if_ne e_X11_canGoOn_360 (fun c_25 => ?_) (fun c_25 => ?_)
                  · replace h := h.1 c_25
                    exact kk_sub [0, 1, 2, 3] rfl (hJ_23 σ_19 h)
                  · replace h := h.2 c_25
                    refine kk_aload_n 0 rfl e_X11_canGoOn_363 ?_
                    refine kk_getr e_X11_canGoOn_364 fl_X11_55 rfl rfl ?_
                    refine kk_iload 3 rfl e_X11_canGoOn_367 ?_
                    refine kk_iconst ic_m1 e_X11_canGoOn_369 ?_
                    refine kk_iast e_X11_canGoOn_370 rfl h.1 ?_
                    replace h := h.2
                    refine kk_tops (fun σ_24 eσ_24 => ?_)
                    replace h := h σ_24 eσ_24
                    exact kk_sub [0, 1, 2, 3] rfl (hJ_23 σ_24 h)
            · intro J_17 hJ_17 h
              refine kk_sub [0, 1, 2, 3, 4] rfl ?_
              refine kk_lpW3 (P := fun (v3_27 : Int32) (v5_28 : Int32) (σ_29 : kk_St) => KK Z sh_M RX11 cX11_canGoOn 7 (some .boolean) (kk_R 5) (kk_Qi Z sh_M Q) 162 [(0, .ref (Z.2.1 0)), (1, .int v1), (2, .int v2_4), (3, .int v3_27), (5, .int v5_28)] [] σ_29) ?_ h
              intro rec_30 hrec_30 v3_27 v5_28 σ_29 h
              refine kk_iload 4 rfl e_X11_canGoOn_162 ?_
              refine kk_if_ne e_X11_canGoOn_164 (fun c_54 => ?_) (fun c_54 => ?_)
              · replace h := h.1 c_54
                exact kk_sub [0, 2, 4] rfl (hJ_17 v5_28 σ_29 h)
              · replace h := h.2 c_54
                refine kk_iload_n 3 rfl e_X11_canGoOn_167 ?_
                refine kk_if_lt e_X11_canGoOn_168 (fun c_53 => ?_) (fun c_53 => ?_)
                · replace h := h.1 c_53
                  exact kk_sub [0, 2, 4] rfl (hJ_17 v5_28 σ_29 h)
                · replace h := h.2 c_53
                  refine kk_aload_n 0 rfl e_X11_canGoOn_171 ?_
                  refine kk_getr e_X11_canGoOn_172 fl_X11_61 rfl rfl ?_
                  refine kk_iload_n 3 rfl e_X11_canGoOn_175 ?_
                  refine kk_iald e_X11_canGoOn_176 rfl h.1 ?_
                  replace h := h.2
                  refine kk_istore (lv' := [(6, .int (kk_rd σ_29 13 v3_27)), (0, .ref (Z.2.1 0)), (1, .int v1), (2, .int v2_4), (3, .int v3_27), (5, .int v5_28)]) e_X11_canGoOn_177 (by decide) rfl ?_
                  refine kk_aload_n 1 rfl e_X11_canGoOn_179 ?_
                  refine kk_getr e_X11_canGoOn_180 fl_X11_55 rfl rfl ?_
                  refine kk_iload 0 rfl e_X11_canGoOn_183 ?_
                  refine kk_iald e_X11_canGoOn_185 rfl h.1 ?_
                  replace h := h.2
                  refine kk_jW1 (P := fun (σ_31 : kk_St) => KK Z sh_M RX11 cX11_canGoOn 7 (some .boolean) (kk_R 5) (kk_Qi Z sh_M Q) 202 [(0, .ref (Z.2.1 0)), (1, .int v1), (2, .int v2_4), (3, .int v3_27), (5, .int v5_28), (6, .int (kk_rd σ_29 13 v3_27))] [] σ_31) h ?_ ?_
                  · intro σ_31 h
                    refine kk_aload_n 0 rfl e_X11_canGoOn_202 ?_
                    refine kk_getr e_X11_canGoOn_203 fl_X11_55 rfl rfl ?_
                    refine kk_iload 5 rfl e_X11_canGoOn_206 ?_
                    refine kk_iconst ic_m1 e_X11_canGoOn_208 ?_
                    refine kk_iast e_X11_canGoOn_209 rfl h.1 ?_
                    replace h := h.2
                    refine kk_tops (fun σ_33 eσ_33 => ?_)
                    replace h := h σ_33 eσ_33
                    refine kk_aload_n 0 rfl e_X11_canGoOn_210 ?_
                    refine kk_getr e_X11_canGoOn_211 fl_X11_64 rfl rfl ?_
                    refine kk_iload_n 3 rfl e_X11_canGoOn_214 ?_
                    refine kk_iald e_X11_canGoOn_215 rfl h.1 ?_
                    replace h := h.2
                    refine kk_if_ne e_X11_canGoOn_216 (fun c_50 => ?_) (fun c_50 => ?_)
                    · replace h := h.1 c_50
                      refine kk_aload_n 0 rfl e_X11_canGoOn_225 ?_
                      refine kk_getr e_X11_canGoOn_226 fl_X11_55 rfl rfl ?_
                      refine kk_iload 5 rfl e_X11_canGoOn_229 ?_
                      refine kk_aload_n 0 rfl e_X11_canGoOn_231 ?_
                      refine kk_getr e_X11_canGoOn_232 fl_X11_64 rfl rfl ?_
                      refine kk_iload_n 3 rfl e_X11_canGoOn_235 ?_
                      refine kk_iald e_X11_canGoOn_236 rfl h.1 ?_
                      replace h := h.2
                      refine kk_callSip (As := [.int (kk_rd σ_33 14 v3_27)]) (rest := [.int (kk_rd σ_29 13 v3_27), .ref (Z.2.1 11)]) e_X11_canGoOn_237 ml_X11_166 rfl (kk_fitR (by decide) (by decide)) (Nat.le_of_ble_eq_true rfl) rfl (s_X11_lowestOf Z (kk_rd σ_33 14 v3_27) σ_33 _ h) (fun r_34 h => ?_)
                      refine kk_iast e_X11_canGoOn_240 rfl h.1 ?_
                      replace h := h.2
                      refine kk_tops (fun σ_35 eσ_35 => ?_)
                      replace h := h σ_35 eσ_35
                      refine kk_aload_n 0 rfl e_X11_canGoOn_241 ?_
                      refine kk_getr e_X11_canGoOn_242 fl_X11_64 rfl rfl ?_
                      refine kk_iload_n 3 rfl e_X11_canGoOn_245 ?_
                      refine kk_dup2 rfl rfl e_X11_canGoOn_246 ?_
                      refine kk_iald e_X11_canGoOn_247 rfl h.1 ?_
                      replace h := h.2
                      refine kk_aload_n 0 rfl e_X11_canGoOn_248 ?_
                      refine kk_getr e_X11_canGoOn_249 fl_X11_64 rfl rfl ?_
                      refine kk_iload_n 3 rfl e_X11_canGoOn_252 ?_
                      refine kk_iald e_X11_canGoOn_253 rfl h.1 ?_
                      replace h := h.2
                      refine kk_iconst ic_1 e_X11_canGoOn_254 ?_
                      refine kk_isub e_X11_canGoOn_255 ?_
                      refine kk_iand e_X11_canGoOn_256 ?_
                      refine kk_iast e_X11_canGoOn_257 rfl h.1 ?_
                      replace h := h.2
                      refine kk_tops (fun σ_36 eσ_36 => ?_)
                      replace h := h σ_36 eσ_36
                      refine kk_aload_n 0 rfl e_X11_canGoOn_258 ?_
                      refine kk_iload 5 rfl e_X11_canGoOn_259 ?_
                      refine kk_aload_n 0 rfl e_X11_canGoOn_261 ?_
                      refine kk_getr e_X11_canGoOn_262 fl_X11_55 rfl rfl ?_
                      refine kk_iload 5 rfl e_X11_canGoOn_265 ?_
                      refine kk_iald e_X11_canGoOn_267 rfl h.1 ?_
                      replace h := h.2
                      refine kk_callVv (As := [.int (kk_rd σ_29 13 v3_27), .int (kk_rd σ_36 11 (kk_rd σ_29 13 v3_27))]) (rest := []) e_X11_canGoOn_268 ml_X11_219 ⟨_, _, _, _, rfl, rfl⟩ rfl (kk_fitR (by decide) (by decide)) (Nat.le_of_ble_eq_true rfl) rfl (s_X11_picks Z (kk_rd σ_29 13 v3_27) (kk_rd σ_36 11 (kk_rd σ_29 13 v3_27)) σ_36 _ h) (fun σ_37 h => ?_)
                      refine kk_aload_n 0 rfl e_X11_canGoOn_271 ?_
                      refine kk_iload_n 1 rfl e_X11_canGoOn_272 ?_
                      refine kk_callVip (As := [.int v1]) (rest := []) e_X11_canGoOn_273 ml_X11_226 ⟨_, _, _, _, rfl, rfl⟩ rfl (kk_fitR (by decide) (by decide)) (Nat.le_of_ble_eq_true rfl) rfl (s_X11_fewestWays Z v1 σ_37 _ h) (fun r_38 h => ?_)
                      refine kk_istore (lv' := [(4, .int r_38), (0, .ref (Z.2.1 0)), (1, .int v1), (2, .int v2_4), (3, .int v3_27), (5, .int v5_28), (6, .int (kk_rd σ_29 13 v3_27))]) e_X11_canGoOn_276 (by decide) rfl ?_
                      refine kk_iload 0 rfl e_X11_canGoOn_278 ?_
                      refine kk_iconst ic_m1 e_X11_canGoOn_280 ?_
                      refine kk_jW1 (P := fun (t_39 : Int32) => KK Z sh_M RX11 cX11_canGoOn 7 (some .boolean) (kk_R 5) (kk_Qi Z sh_M Q) 289 [(0, .ref (Z.2.1 0)), (1, .int v1), (2, .int v2_4), (3, .int v3_27), (4, .int r_38)] [.int t_39] σ_37) h ?_ ?_
                      · intro t_39 h
                        refine kk_istore (lv' := [(5, .int t_39), (0, .ref (Z.2.1 0)), (1, .int v1), (2, .int v2_4), (3, .int v3_27), (4, .int r_38)]) e_X11_canGoOn_289 (by decide) rfl ?_
                        refine kk_iload 0 rfl e_X11_canGoOn_291 ?_
                        refine kk_if_ne e_X11_canGoOn_293 (fun c_48 => ?_) (fun c_48 => ?_)
                        · replace h := h.1 c_48
                          exact kk_sub [1, 2, 3, 4, 0] rfl (hrec_30 v3_27 t_39 σ_37 h)
                        · replace h := h.2 c_48
                          refine kk_aload_n 1 rfl e_X11_canGoOn_296 ?_
                          refine kk_iload 5 rfl e_X11_canGoOn_297 ?_
                          refine kk_callVip (As := [.int r_38]) (rest := []) e_X11_canGoOn_299 ml_X11_207 ⟨_, _, _, _, rfl, rfl⟩ rfl (kk_fitR (by decide) (by decide)) (Nat.le_of_ble_eq_true rfl) rfl (s_X11_waysOf Z r_38 σ_37 _ h) (fun r_41 h => ?_)
                          refine kk_if_eq e_X11_canGoOn_302 (fun c_47 => ?_) (fun c_47 => ?_)
                          · replace h := h.1 c_47
                            exact kk_sub [1, 2, 3, 4, 0] rfl (hrec_30 v3_27 t_39 σ_37 h)
                          · replace h := h.2 c_47
                            refine kk_aload_n 1 rfl e_X11_canGoOn_305 ?_
                            refine kk_iload_n 2 rfl e_X11_canGoOn_306 ?_
                            refine kk_callVip (As := [.int v1]) (rest := []) e_X11_canGoOn_307 ml_X11_229 ⟨_, _, _, _, rfl, rfl⟩ rfl (kk_fitR (by decide) (by decide)) (Nat.le_of_ble_eq_true rfl) rfl (s_X11_canBeEnough Z v1 σ_37 _ h) (fun r_42 h => ?_)
                            refine kk_if_ne e_X11_canGoOn_310 (fun c_46 => ?_) (fun c_46 => ?_)
                            · replace h := h.1 c_46
                              refine kk_iinc (lv' := [(3, .int (v3_27 + (1 : Int32))), (5, .int t_39), (0, .ref (Z.2.1 0)), (1, .int v1), (2, .int v2_4), (4, .int r_38)]) e_X11_canGoOn_316 (j := 4) rfl (ii_1 v3_27) (by decide) rfl ?_
                              refine kk_aload_n 2 rfl e_X11_canGoOn_319 ?_
                              refine kk_getr e_X11_canGoOn_320 fl_X11_61 rfl rfl ?_
                              refine kk_iload_n 0 rfl e_X11_canGoOn_323 ?_
                              refine kk_iload 5 rfl e_X11_canGoOn_324 ?_
                              refine kk_iast e_X11_canGoOn_326 rfl h.1 ?_
                              replace h := h.2
                              refine kk_tops (fun σ_43 eσ_43 => ?_)
                              replace h := h σ_43 eσ_43
                              refine kk_aload_n 2 rfl e_X11_canGoOn_327 ?_
                              refine kk_getr e_X11_canGoOn_328 fl_X11_64 rfl rfl ?_
                              refine kk_iload_n 0 rfl e_X11_canGoOn_331 ?_
                              refine kk_aload_n 2 rfl e_X11_canGoOn_332 ?_
                              refine kk_iload 5 rfl e_X11_canGoOn_333 ?_
                              refine kk_callVip (As := [.int r_38]) (rest := [.int (v3_27 + (1 : Int32)), .ref (Z.2.1 14)]) e_X11_canGoOn_335 ml_X11_232 ⟨_, _, _, _, rfl, rfl⟩ rfl (kk_fitR (by decide) (by decide)) (Nat.le_of_ble_eq_true rfl) rfl (s_X11_triesOf Z r_38 σ_43 _ h) (fun r_44 h => ?_)
                              refine kk_iast e_X11_canGoOn_338 rfl h.1 ?_
                              replace h := h.2
                              refine kk_tops (fun σ_45 eσ_45 => ?_)
                              replace h := h σ_45 eσ_45
                              refine kk_goto e_X11_canGoOn_339 ?_
                              exact kk_sub [2, 3, 4, 0, 1] rfl (hrec_30 (v3_27 + (1 : Int32)) t_39 σ_45 h)
                            · replace h := h.2 c_46
                              refine kk_goto e_X11_canGoOn_313 ?_
                              exact kk_sub [1, 2, 3, 4, 0] rfl (hrec_30 v3_27 t_39 σ_37 h)
                      · intro J_40 hJ_40 h
                        refine kk_icmp_ne e_X11_canGoOn_281 (fun c_49 => ?_) (fun c_49 => ?_)
                        · replace h := h.1 c_49
                          refine kk_iconst ic_0 e_X11_canGoOn_288 ?_
                          exact kk_sub [1, 2, 3, 4, 0] rfl (hJ_40 (0 : Int32) h)
                        · replace h := h.2 c_49
                          refine kk_iconst ic_1 e_X11_canGoOn_284 ?_
                          refine kk_goto e_X11_canGoOn_285 ?_
                          exact kk_sub [1, 2, 3, 4, 0] rfl (hJ_40 (1 : Int32) h)
                    · replace h := h.2 c_50
                      refine kk_iinc (lv' := [(3, .int (v3_27 + (-1 : Int32))), (0, .ref (Z.2.1 0)), (1, .int v1), (2, .int v2_4), (5, .int v5_28), (6, .int (kk_rd σ_29 13 v3_27))]) e_X11_canGoOn_219 (j := 3) rfl (ii_m1 v3_27) (by decide) rfl ?_
                      refine kk_goto e_X11_canGoOn_222 ?_
                      exact kk_sub [1, 2, 3, 0, 4] rfl (hrec_30 (v3_27 + (-1 : Int32)) v5_28 σ_33 h)
                  · intro J_32 hJ_32 h
                    refine kk_if_lt e_X11_canGoOn_186 (fun c_52 => ?_) (fun c_52 => ?_)
                    · replace h := h.1 c_52
                      exact kk_sub [1, 2, 3, 4, 5, 0] rfl (hJ_32 σ_29 h)
                    · replace h := h.2 c_52
                      refine kk_aload_n 1 rfl e_X11_canGoOn_189 ?_
                      refine kk_iload 0 rfl e_X11_canGoOn_190 ?_
                      refine kk_aload_n 1 rfl e_X11_canGoOn_192 ?_
                      refine kk_getr e_X11_canGoOn_193 fl_X11_55 rfl rfl ?_
                      refine kk_iload 0 rfl e_X11_canGoOn_196 ?_
                      refine kk_iald e_X11_canGoOn_198 rfl h.1 ?_
                      replace h := h.2
                      refine kk_callVv (As := [.int (kk_rd σ_29 13 v3_27), .int (kk_rd σ_29 11 (kk_rd σ_29 13 v3_27))]) (rest := []) e_X11_canGoOn_199 ml_X11_219 ⟨_, _, _, _, rfl, rfl⟩ rfl (kk_fitR (by decide) (by decide)) (Nat.le_of_ble_eq_true rfl) rfl (s_X11_picks Z (kk_rd σ_29 13 v3_27) (kk_rd σ_29 11 (kk_rd σ_29 13 v3_27)) σ_29 _ h) (fun σ_51 h => ?_)
                      exact kk_sub [1, 2, 3, 4, 5, 0] rfl (hJ_32 σ_51 h)
          · intro J_14 hJ_14 h
            refine kk_if_ne e_X11_canGoOn_139 (fun c_58 => ?_) (fun c_58 => ?_)
            · replace h := h.1 c_58
              exact kk_sub [0, 1, 2, 3, 5] rfl (hJ_14 σ_8 h)
            · replace h := h.2 c_58
              refine kk_aload_n 0 rfl e_X11_canGoOn_142 ?_
              refine kk_getr e_X11_canGoOn_143 fl_X11_61 rfl rfl ?_
              refine kk_iconst ic_0 e_X11_canGoOn_146 ?_
              refine kk_iload 4 rfl e_X11_canGoOn_147 ?_
              refine kk_iast e_X11_canGoOn_149 rfl h.1 ?_
              replace h := h.2
              refine kk_tops (fun σ_55 eσ_55 => ?_)
              replace h := h σ_55 eσ_55
              refine kk_aload_n 0 rfl e_X11_canGoOn_150 ?_
              refine kk_getr e_X11_canGoOn_151 fl_X11_64 rfl rfl ?_
              refine kk_iconst ic_0 e_X11_canGoOn_154 ?_
              refine kk_aload_n 0 rfl e_X11_canGoOn_155 ?_
              refine kk_iload 4 rfl e_X11_canGoOn_156 ?_
              refine kk_callVip (As := [.int r_9]) (rest := [.int (0 : Int32), .ref (Z.2.1 14)]) e_X11_canGoOn_158 ml_X11_232 ⟨_, _, _, _, rfl, rfl⟩ rfl (kk_fitR (by decide) (by decide)) (Nat.le_of_ble_eq_true rfl) rfl (s_X11_triesOf Z r_9 σ_55 _ h) (fun r_56 h => ?_)
              refine kk_iast e_X11_canGoOn_161 rfl h.1 ?_
              replace h := h.2
              refine kk_tops (fun σ_57 eσ_57 => ?_)
              replace h := h σ_57 eσ_57
              exact kk_sub [0, 1, 2, 3, 5] rfl (hJ_14 σ_57 h)
        · intro J_12 hJ_12 h
          refine kk_if_ne e_X11_canGoOn_124 (fun c_61 => ?_) (fun c_61 => ?_)
          · replace h := h.1 c_61
            exact kk_sub [1, 2, 3, 4, 5, 0] rfl (hJ_12 h)
          · replace h := h.2 c_61
            refine kk_aload_n 1 rfl e_X11_canGoOn_127 ?_
            refine kk_iload_n 2 rfl e_X11_canGoOn_128 ?_
            refine kk_callVip (As := [.int v1]) (rest := []) e_X11_canGoOn_129 ml_X11_229 ⟨_, _, _, _, rfl, rfl⟩ rfl (kk_fitR (by decide) (by decide)) (Nat.le_of_ble_eq_true rfl) rfl (s_X11_canBeEnough Z v1 σ_8 _ h) (fun r_59 h => ?_)
            refine kk_if_ne e_X11_canGoOn_132 (fun c_60 => ?_) (fun c_60 => ?_)
            · replace h := h.1 c_60
              exact kk_sub [1, 2, 3, 4, 5, 0] rfl (hJ_12 h)
            · replace h := h.2 c_60
              refine kk_iconst ic_0 e_X11_canGoOn_135 ?_
              exact kk_zret e_X11_canGoOn_136 (Or.inl rfl) h
      · intro J_11 hJ_11 h
        refine kk_icmp_ne e_X11_canGoOn_112 (fun c_62 => ?_) (fun c_62 => ?_)
        · replace h := h.1 c_62
          refine kk_iconst ic_0 e_X11_canGoOn_119 ?_
          exact kk_sub [2, 3, 4, 1, 0] rfl (hJ_11 (0 : Int32) h)
        · replace h := h.2 c_62
          refine kk_iconst ic_1 e_X11_canGoOn_115 ?_
          refine kk_goto e_X11_canGoOn_116 ?_
          exact kk_sub [2, 3, 4, 1, 0] rfl (hJ_11 (1 : Int32) h)
    · replace h := h.2 c_74
      refine kk_iload_n 1 rfl e_X11_canGoOn_33 ?_
      refine kk_iload_n 3 rfl e_X11_canGoOn_34 ?_
      refine kk_callSip (As := [.int v1, .int v3_5]) (rest := []) e_X11_canGoOn_35 ml_X11_11 rfl (kk_fitR (by decide) (by decide)) (Nat.le_of_ble_eq_true rfl) rfl (s_X11_has Z v1 v3_5 σ_6 _ h) (fun r_63 h => ?_)
      refine kk_jW2 (P := fun (v2_64 : Int32) (σ_65 : kk_St) => KK Z sh_M RX11 cX11_canGoOn 7 (some .boolean) (kk_R 5) (kk_Qi Z sh_M Q) 89 [(0, .ref (Z.2.1 0)), (1, .int v1), (2, .int v2_64), (3, .int v3_5)] [] σ_65) h ?_ ?_
      · intro v2_64 σ_65 h
        refine kk_iinc (lv' := [(3, .int (v3_5 + (1 : Int32))), (0, .ref (Z.2.1 0)), (1, .int v1), (2, .int v2_64)]) e_X11_canGoOn_89 (j := 3) rfl (ii_1 v3_5) (by decide) rfl ?_
        refine kk_goto e_X11_canGoOn_92 ?_
        exact kk_sub [1, 2, 3, 0] rfl (hrec_7 v2_64 (v3_5 + (1 : Int32)) σ_65 h)
      · intro J_66 hJ_66 h
        refine kk_if_eq e_X11_canGoOn_38 (fun c_73 => ?_) (fun c_73 => ?_)
        · replace h := h.1 c_73
          exact kk_sub [0, 1, 2, 3] rfl (hJ_66 v2_4 σ_6 h)
        · replace h := h.2 c_73
          refine kk_aload_n 0 rfl e_X11_canGoOn_41 ?_
          refine kk_getr e_X11_canGoOn_42 fl_X11_55 rfl rfl ?_
          refine kk_iload_n 3 rfl e_X11_canGoOn_45 ?_
          refine kk_iald e_X11_canGoOn_46 rfl h.1 ?_
          replace h := h.2
          refine kk_if_ge e_X11_canGoOn_47 (fun c_72 => ?_) (fun c_72 => ?_)
          · replace h := h.1 c_72
            refine kk_aload_n 0 rfl e_X11_canGoOn_53 ?_
            refine kk_iload_n 3 rfl e_X11_canGoOn_54 ?_
            refine kk_callVip (As := [.int v3_5]) (rest := []) e_X11_canGoOn_55 ml_X11_207 ⟨_, _, _, _, rfl, rfl⟩ rfl (kk_fitR (by decide) (by decide)) (Nat.le_of_ble_eq_true rfl) rfl (s_X11_waysOf Z v3_5 σ_6 _ h) (fun r_67 h => ?_)
            refine kk_aload_n 0 rfl e_X11_canGoOn_58 ?_
            refine kk_getr e_X11_canGoOn_59 fl_X11_55 rfl rfl ?_
            refine kk_iload_n 3 rfl e_X11_canGoOn_62 ?_
            refine kk_iald e_X11_canGoOn_63 rfl h.1 ?_
            replace h := h.2
            refine kk_callSip (As := [.int r_67, .int (kk_rd σ_6 11 v3_5)]) (rest := []) e_X11_canGoOn_64 ml_X11_11 rfl (kk_fitR (by decide) (by decide)) (Nat.le_of_ble_eq_true rfl) rfl (s_X11_has Z r_67 (kk_rd σ_6 11 v3_5) σ_6 _ h) (fun r_68 h => ?_)
            refine kk_if_ne e_X11_canGoOn_67 (fun c_71 => ?_) (fun c_71 => ?_)
            · replace h := h.1 c_71
              refine kk_aload_n 0 rfl e_X11_canGoOn_72 ?_
              refine kk_iload_n 3 rfl e_X11_canGoOn_73 ?_
              refine kk_aload_n 0 rfl e_X11_canGoOn_74 ?_
              refine kk_getr e_X11_canGoOn_75 fl_X11_55 rfl rfl ?_
              refine kk_iload_n 3 rfl e_X11_canGoOn_78 ?_
              refine kk_iald e_X11_canGoOn_79 rfl h.1 ?_
              replace h := h.2
              refine kk_callVv (As := [.int v3_5, .int (kk_rd σ_6 11 v3_5)]) (rest := []) e_X11_canGoOn_80 ml_X11_219 ⟨_, _, _, _, rfl, rfl⟩ rfl (kk_fitR (by decide) (by decide)) (Nat.le_of_ble_eq_true rfl) rfl (s_X11_picks Z v3_5 (kk_rd σ_6 11 v3_5) σ_6 _ h) (fun σ_69 h => ?_)
              refine kk_iload_n 2 rfl e_X11_canGoOn_83 ?_
              refine kk_iconst ic_1 e_X11_canGoOn_84 ?_
              refine kk_iload_n 3 rfl e_X11_canGoOn_85 ?_
              refine kk_ishl e_X11_canGoOn_86 ?_
              refine kk_ior e_X11_canGoOn_87 ?_
              refine kk_topi (fun v2_70 ev2_70 => ?_)
              replace h := h v2_70 ev2_70
              refine kk_istore_n (lv' := [(2, .int v2_70), (0, .ref (Z.2.1 0)), (1, .int v1), (3, .int v3_5)]) e_X11_canGoOn_88 rfl (by decide) rfl ?_
              exact kk_sub [1, 2, 0, 3] rfl (hJ_66 v2_70 σ_69 h)
            · replace h := h.2 c_71
              refine kk_iconst ic_0 e_X11_canGoOn_70 ?_
              exact kk_zret e_X11_canGoOn_71 (Or.inl rfl) h
          · replace h := h.2 c_72
            refine kk_goto e_X11_canGoOn_50 ?_
            exact kk_sub [0, 1, 2, 3] rfl (hJ_66 v2_4 σ_6 h)
  · replace h := h.2 c_76
    refine kk_aload_n 0 rfl e_X11_canGoOn_8 ?_
    refine kk_getr e_X11_canGoOn_9 fl_X11_58 rfl rfl ?_
    refine kk_iload_n 2 rfl e_X11_canGoOn_12 ?_
    refine kk_iconst ic_0 e_X11_canGoOn_13 ?_
    refine kk_iast e_X11_canGoOn_14 rfl h.1 ?_
    replace h := h.2
    refine kk_tops (fun σ_75 eσ_75 => ?_)
    replace h := h σ_75 eσ_75
    refine kk_iinc (lv' := [(2, .int (v2_1 + (1 : Int32))), (0, .ref (Z.2.1 0)), (1, .int v1)]) e_X11_canGoOn_15 (j := 2) rfl (ii_1 v2_1) (by decide) rfl ?_
    refine kk_goto e_X11_canGoOn_18 ?_
    exact kk_sub [1, 2, 0] rfl (hrec_3 (v2_1 + (1 : Int32)) σ_75 h)
theorem e_X11_chainIn_0 : kk_d cX11_chainIn 0 (.iconst 0) 1 1 := ⟨by decide +kernel, rfl⟩
theorem e_X11_chainIn_1 : kk_d cX11_chainIn 1 (.istore 5) 2 3 := ⟨by decide +kernel, rfl⟩
theorem e_X11_chainIn_3 : kk_d cX11_chainIn 3 (.iconst (-1)) 1 4 := ⟨by decide +kernel, rfl⟩
theorem e_X11_chainIn_4 : kk_d cX11_chainIn 4 (.istore 6) 2 6 := ⟨by decide +kernel, rfl⟩
theorem e_X11_chainIn_6 : kk_d cX11_chainIn 6 (.aload_n 0) 1 7 := ⟨by decide +kernel, rfl⟩
theorem e_X11_chainIn_7 : kk_d cX11_chainIn 7 (.iconst 1) 1 8 := ⟨by decide +kernel, rfl⟩
theorem e_X11_chainIn_8 : kk_d cX11_chainIn 8 (.iload_n 2) 1 9 := ⟨by decide +kernel, rfl⟩
theorem e_X11_chainIn_9 : kk_d cX11_chainIn 9 .ishl 1 10 := ⟨by decide +kernel, rfl⟩
theorem e_X11_chainIn_10 : kk_d cX11_chainIn 10 (.putfield 146) 3 13 := ⟨by decide +kernel, rfl⟩
theorem e_X11_chainIn_13 : kk_d cX11_chainIn 13 (.iload 6) 2 15 := ⟨by decide +kernel, rfl⟩
theorem e_X11_chainIn_15 : kk_d cX11_chainIn 15 (.iload 5) 2 17 := ⟨by decide +kernel, rfl⟩
theorem e_X11_chainIn_17 : kk_dj cX11_chainIn 17 (.if_icmp .eq 119) 3 (119) 20 136 := ⟨by decide +kernel, rfl, by decide⟩
theorem e_X11_chainIn_136 : kk_d cX11_chainIn 136 (.iload 5) 2 138 := ⟨by decide +kernel, rfl⟩
theorem e_X11_chainIn_138 : kk_d cX11_chainIn 138 .ireturn 1 139 := ⟨by decide +kernel, rfl⟩
theorem e_X11_chainIn_20 : kk_d cX11_chainIn 20 (.iload 5) 2 22 := ⟨by decide +kernel, rfl⟩
theorem e_X11_chainIn_22 : kk_d cX11_chainIn 22 (.istore 6) 2 24 := ⟨by decide +kernel, rfl⟩
theorem e_X11_chainIn_24 : kk_d cX11_chainIn 24 (.iconst 0) 1 25 := ⟨by decide +kernel, rfl⟩
theorem e_X11_chainIn_25 : kk_d cX11_chainIn 25 (.istore 7) 2 27 := ⟨by decide +kernel, rfl⟩
theorem e_X11_chainIn_27 : kk_d cX11_chainIn 27 (.iload 7) 2 29 := ⟨by decide +kernel, rfl⟩
theorem e_X11_chainIn_29 : kk_d cX11_chainIn 29 (.aload_n 0) 1 30 := ⟨by decide +kernel, rfl⟩
theorem e_X11_chainIn_30 : kk_d cX11_chainIn 30 (.getfield 96) 3 33 := ⟨by decide +kernel, rfl⟩
theorem e_X11_chainIn_33 : kk_dj cX11_chainIn 33 (.if_icmp .ge 100) 3 (100) 36 133 := ⟨by decide +kernel, rfl, by decide⟩
theorem e_X11_chainIn_133 : kk_dj cX11_chainIn 133 (.goto (-120)) 3 (-120) 136 13 := ⟨by decide +kernel, rfl, by decide⟩
theorem e_X11_chainIn_36 : kk_d cX11_chainIn 36 (.aload_n 1) 1 37 := ⟨by decide +kernel, rfl⟩
theorem e_X11_chainIn_37 : kk_d cX11_chainIn 37 (.iload 7) 2 39 := ⟨by decide +kernel, rfl⟩
theorem e_X11_chainIn_39 : kk_d cX11_chainIn 39 .iaload 1 40 := ⟨by decide +kernel, rfl⟩
theorem e_X11_chainIn_40 : kk_d cX11_chainIn 40 (.iload_n 3) 1 41 := ⟨by decide +kernel, rfl⟩
theorem e_X11_chainIn_41 : kk_dj cX11_chainIn 41 (.if_icmp .eq 12) 3 (12) 44 53 := ⟨by decide +kernel, rfl, by decide⟩
theorem e_X11_chainIn_127 : kk_d cX11_chainIn 127 (.iinc 7 1) 3 130 := ⟨by decide +kernel, rfl⟩
theorem e_X11_chainIn_130 : kk_dj cX11_chainIn 130 (.goto (-103)) 3 (-103) 133 27 := ⟨by decide +kernel, rfl, by decide⟩
theorem e_X11_chainIn_53 : kk_d cX11_chainIn 53 (.aload_n 0) 1 54 := ⟨by decide +kernel, rfl⟩
theorem e_X11_chainIn_54 : kk_d cX11_chainIn 54 (.getfield 146) 3 57 := ⟨by decide +kernel, rfl⟩
theorem e_X11_chainIn_57 : kk_d cX11_chainIn 57 (.aload_n 0) 1 58 := ⟨by decide +kernel, rfl⟩
theorem e_X11_chainIn_58 : kk_d cX11_chainIn 58 (.getfield 24) 3 61 := ⟨by decide +kernel, rfl⟩
theorem e_X11_chainIn_61 : kk_d cX11_chainIn 61 (.iload 7) 2 63 := ⟨by decide +kernel, rfl⟩
theorem e_X11_chainIn_63 : kk_d cX11_chainIn 63 .iaload 1 64 := ⟨by decide +kernel, rfl⟩
theorem e_X11_chainIn_64 : kk_d cX11_chainIn 64 (.invokestatic 11) 3 67 := ⟨by decide +kernel, rfl⟩
theorem e_X11_chainIn_67 : kk_dj cX11_chainIn 67 (.ifCond .ne 23) 3 (23) 70 90 := ⟨by decide +kernel, rfl, by decide⟩
theorem e_X11_chainIn_90 : kk_d cX11_chainIn 90 (.iload 5) 2 92 := ⟨by decide +kernel, rfl⟩
theorem e_X11_chainIn_92 : kk_d cX11_chainIn 92 (.iconst 1) 1 93 := ⟨by decide +kernel, rfl⟩
theorem e_X11_chainIn_93 : kk_d cX11_chainIn 93 (.iload 7) 2 95 := ⟨by decide +kernel, rfl⟩
theorem e_X11_chainIn_95 : kk_d cX11_chainIn 95 .ishl 1 96 := ⟨by decide +kernel, rfl⟩
theorem e_X11_chainIn_96 : kk_d cX11_chainIn 96 .ior 1 97 := ⟨by decide +kernel, rfl⟩
theorem e_X11_chainIn_97 : kk_d cX11_chainIn 97 (.istore 5) 2 99 := ⟨by decide +kernel, rfl⟩
theorem e_X11_chainIn_99 : kk_d cX11_chainIn 99 (.aload_n 0) 1 100 := ⟨by decide +kernel, rfl⟩
theorem e_X11_chainIn_100 : kk_d cX11_chainIn 100 .dup 1 101 := ⟨by decide +kernel, rfl⟩
theorem e_X11_chainIn_101 : kk_d cX11_chainIn 101 (.getfield 146) 3 104 := ⟨by decide +kernel, rfl⟩
theorem e_X11_chainIn_104 : kk_d cX11_chainIn 104 (.iconst 1) 1 105 := ⟨by decide +kernel, rfl⟩
theorem e_X11_chainIn_105 : kk_d cX11_chainIn 105 (.aload_n 0) 1 106 := ⟨by decide +kernel, rfl⟩
theorem e_X11_chainIn_106 : kk_d cX11_chainIn 106 (.getfield 24) 3 109 := ⟨by decide +kernel, rfl⟩
theorem e_X11_chainIn_109 : kk_d cX11_chainIn 109 (.iload 7) 2 111 := ⟨by decide +kernel, rfl⟩
theorem e_X11_chainIn_111 : kk_d cX11_chainIn 111 .iaload 1 112 := ⟨by decide +kernel, rfl⟩
theorem e_X11_chainIn_112 : kk_d cX11_chainIn 112 .ishl 1 113 := ⟨by decide +kernel, rfl⟩
theorem e_X11_chainIn_113 : kk_d cX11_chainIn 113 (.iconst 1) 1 114 := ⟨by decide +kernel, rfl⟩
theorem e_X11_chainIn_114 : kk_d cX11_chainIn 114 (.aload_n 0) 1 115 := ⟨by decide +kernel, rfl⟩
theorem e_X11_chainIn_115 : kk_d cX11_chainIn 115 (.getfield 28) 3 118 := ⟨by decide +kernel, rfl⟩
theorem e_X11_chainIn_118 : kk_d cX11_chainIn 118 (.iload 7) 2 120 := ⟨by decide +kernel, rfl⟩
theorem e_X11_chainIn_120 : kk_d cX11_chainIn 120 .iaload 1 121 := ⟨by decide +kernel, rfl⟩
theorem e_X11_chainIn_121 : kk_d cX11_chainIn 121 .ishl 1 122 := ⟨by decide +kernel, rfl⟩
theorem e_X11_chainIn_122 : kk_d cX11_chainIn 122 .ior 1 123 := ⟨by decide +kernel, rfl⟩
theorem e_X11_chainIn_123 : kk_d cX11_chainIn 123 .ior 1 124 := ⟨by decide +kernel, rfl⟩
theorem e_X11_chainIn_124 : kk_d cX11_chainIn 124 (.putfield 146) 3 127 := ⟨by decide +kernel, rfl⟩
theorem e_X11_chainIn_70 : kk_d cX11_chainIn 70 (.aload_n 0) 1 71 := ⟨by decide +kernel, rfl⟩
theorem e_X11_chainIn_71 : kk_d cX11_chainIn 71 (.getfield 146) 3 74 := ⟨by decide +kernel, rfl⟩
theorem e_X11_chainIn_74 : kk_d cX11_chainIn 74 (.aload_n 0) 1 75 := ⟨by decide +kernel, rfl⟩
theorem e_X11_chainIn_75 : kk_d cX11_chainIn 75 (.getfield 28) 3 78 := ⟨by decide +kernel, rfl⟩
theorem e_X11_chainIn_78 : kk_d cX11_chainIn 78 (.iload 7) 2 80 := ⟨by decide +kernel, rfl⟩
theorem e_X11_chainIn_80 : kk_d cX11_chainIn 80 .iaload 1 81 := ⟨by decide +kernel, rfl⟩
theorem e_X11_chainIn_81 : kk_d cX11_chainIn 81 (.invokestatic 11) 3 84 := ⟨by decide +kernel, rfl⟩
theorem e_X11_chainIn_84 : kk_dj cX11_chainIn 84 (.ifCond .ne 6) 3 (6) 87 90 := ⟨by decide +kernel, rfl, by decide⟩
theorem e_X11_chainIn_87 : kk_dj cX11_chainIn 87 (.goto 40) 3 (40) 90 127 := ⟨by decide +kernel, rfl, by decide⟩
theorem e_X11_chainIn_44 : kk_d cX11_chainIn 44 (.aload_n 1) 1 45 := ⟨by decide +kernel, rfl⟩
theorem e_X11_chainIn_45 : kk_d cX11_chainIn 45 (.iload 7) 2 47 := ⟨by decide +kernel, rfl⟩
theorem e_X11_chainIn_47 : kk_d cX11_chainIn 47 .iaload 1 48 := ⟨by decide +kernel, rfl⟩
theorem e_X11_chainIn_48 : kk_d cX11_chainIn 48 (.iload 4) 2 50 := ⟨by decide +kernel, rfl⟩
theorem e_X11_chainIn_50 : kk_dj cX11_chainIn 50 (.if_icmp .ne 77) 3 (77) 53 127 := ⟨by decide +kernel, rfl, by decide⟩
set_option maxRecDepth 4000 in
theorem s_X11_chainIn (Z : kk_Z) (a1 : Nat) (n1 : Nat) (v2 : Int32) (v3 : Int32) (v4 : Int32) (σ : kk_St) (Q : Int32 → kk_St → Prop) (ha1 : sh_M[a1]? = some (.inl (false, n1))) (h : f_X11_chainIn a1 n1 v2 v3 v4 σ Q) : kk_M Z sh_M yX11_chainIn cX11_chainIn 8 (some .int) (kk_R 3) [.ref (Z.2.1 0), .ref (Z.2.1 a1), .int v2, .int v3, .int v4] σ (kk_Qi Z sh_M Q) := by
  unfold f_X11_chainIn at h
  refine kk_met (own := RX11) (by decide) rfl (Nat.le_of_ble_eq_true rfl) rfl ?_
  refine kk_iconst ic_0 e_X11_chainIn_0 ?_
  refine kk_istore (lv' := [(5, .int (0 : Int32)), (0, .ref (Z.2.1 0)), (1, .ref (Z.2.1 a1)), (2, .int v2), (3, .int v3), (4, .int v4)]) e_X11_chainIn_1 (by decide) rfl ?_
  refine kk_iconst ic_m1 e_X11_chainIn_3 ?_
  refine kk_istore (lv' := [(6, .int (-1 : Int32)), (5, .int (0 : Int32)), (0, .ref (Z.2.1 0)), (1, .ref (Z.2.1 a1)), (2, .int v2), (3, .int v3), (4, .int v4)]) e_X11_chainIn_4 (by decide) rfl ?_
  refine kk_aload_n 2 rfl e_X11_chainIn_6 ?_
  refine kk_iconst ic_1 e_X11_chainIn_7 ?_
  refine kk_iload_n 4 rfl e_X11_chainIn_8 ?_
  refine kk_ishl e_X11_chainIn_9 ?_
  refine kk_puti e_X11_chainIn_10 fl_X11_146 fn_X11_9 rfl rfl ?_
  refine kk_tops (fun σ_1 eσ_1 => ?_)
  replace h := h σ_1 eσ_1
  refine kk_sub [2, 3, 5, 6, 1, 0] rfl ?_
  refine kk_lpW3 (P := fun (v5_2 : Int32) (v6_3 : Int32) (σ_4 : kk_St) => KK Z sh_M RX11 cX11_chainIn 8 (some .int) (kk_R 3) (kk_Qi Z sh_M Q) 13 [(0, .ref (Z.2.1 0)), (1, .ref (Z.2.1 a1)), (3, .int v3), (4, .int v4), (5, .int v5_2), (6, .int v6_3)] [] σ_4) ?_ h
  intro rec_5 hrec_5 v5_2 v6_3 σ_4 h
  refine kk_iload 5 rfl e_X11_chainIn_13 ?_
  refine kk_iload 4 rfl e_X11_chainIn_15 ?_
  refine kk_icmp_eq e_X11_chainIn_17 (fun c_24 => ?_) (fun c_24 => ?_)
  · replace h := h.1 c_24
    refine kk_iload 4 rfl e_X11_chainIn_136 ?_
    exact kk_iret e_X11_chainIn_138 h
  · replace h := h.2 c_24
    refine kk_iload 4 rfl e_X11_chainIn_20 ?_
    refine kk_istore (lv' := [(6, .int v5_2), (0, .ref (Z.2.1 0)), (1, .ref (Z.2.1 a1)), (3, .int v3), (4, .int v4), (5, .int v5_2)]) e_X11_chainIn_22 (by decide) rfl ?_
    refine kk_iconst ic_0 e_X11_chainIn_24 ?_
    refine kk_istore (lv' := [(7, .int (0 : Int32)), (6, .int v5_2), (0, .ref (Z.2.1 0)), (1, .ref (Z.2.1 a1)), (3, .int v3), (4, .int v4), (5, .int v5_2)]) e_X11_chainIn_25 (by decide) rfl ?_
    refine kk_sub [2, 3, 4, 5, 6, 1, 0] rfl ?_
    refine kk_lpW3 (P := fun (v5_6 : Int32) (v7_7 : Int32) (σ_8 : kk_St) => KK Z sh_M RX11 cX11_chainIn 8 (some .int) (kk_R 3) (kk_Qi Z sh_M Q) 27 [(0, .ref (Z.2.1 0)), (1, .ref (Z.2.1 a1)), (3, .int v3), (4, .int v4), (5, .int v5_6), (6, .int v5_2), (7, .int v7_7)] [] σ_8) ?_ h
    intro rec_9 hrec_9 v5_6 v7_7 σ_8 h
    refine kk_iload 6 rfl e_X11_chainIn_27 ?_
    refine kk_aload_n 0 rfl e_X11_chainIn_29 ?_
    refine kk_geti e_X11_chainIn_30 fl_X11_96 rfl rfl ?_
    refine kk_icmp_ge e_X11_chainIn_33 (fun c_23 => ?_) (fun c_23 => ?_)
    · replace h := h.1 c_23
      refine kk_goto e_X11_chainIn_133 ?_
      exact kk_sub [0, 1, 2, 3, 4, 5] rfl (hrec_5 v5_6 v5_2 σ_8 h)
    · replace h := h.2 c_23
      refine kk_aload_n 1 rfl e_X11_chainIn_36 ?_
      refine kk_iload 6 rfl e_X11_chainIn_37 ?_
      refine kk_iald e_X11_chainIn_39 ha1 h.1 ?_
      replace h := h.2
      refine kk_iload_n 2 rfl e_X11_chainIn_40 ?_
      refine kk_jW2 (P := fun (v5_10 : Int32) (σ_11 : kk_St) => KK Z sh_M RX11 cX11_chainIn 8 (some .int) (kk_R 3) (kk_Qi Z sh_M Q) 127 [(0, .ref (Z.2.1 0)), (1, .ref (Z.2.1 a1)), (3, .int v3), (4, .int v4), (5, .int v5_10), (6, .int v5_2), (7, .int v7_7)] [] σ_11) h ?_ ?_
      · intro v5_10 σ_11 h
        refine kk_iinc (lv' := [(7, .int (v7_7 + (1 : Int32))), (0, .ref (Z.2.1 0)), (1, .ref (Z.2.1 a1)), (3, .int v3), (4, .int v4), (5, .int v5_10), (6, .int v5_2)]) e_X11_chainIn_127 (j := 6) rfl (ii_1 v7_7) (by decide) rfl ?_
        refine kk_goto e_X11_chainIn_130 ?_
        exact kk_sub [1, 2, 3, 4, 5, 6, 0] rfl (hrec_9 v5_10 (v7_7 + (1 : Int32)) σ_11 h)
      · intro J_12 hJ_12 h
        refine kk_jW0 (P := KK Z sh_M RX11 cX11_chainIn 8 (some .int) (kk_R 3) (kk_Qi Z sh_M Q) 53 [(0, .ref (Z.2.1 0)), (1, .ref (Z.2.1 a1)), (3, .int v3), (4, .int v4), (5, .int v5_6), (6, .int v5_2), (7, .int v7_7)] [] σ_8) h ?_ ?_
        · intro h
          refine kk_aload_n 0 rfl e_X11_chainIn_53 ?_
          refine kk_geti e_X11_chainIn_54 fl_X11_146 rfl rfl ?_
          refine kk_aload_n 0 rfl e_X11_chainIn_57 ?_
          refine kk_getr e_X11_chainIn_58 fl_X11_24 rfl rfl ?_
          refine kk_iload 6 rfl e_X11_chainIn_61 ?_
          refine kk_iald e_X11_chainIn_63 rfl h.1 ?_
          replace h := h.2
          refine kk_callSip (As := [.int (σ_8.1 0 9), .int (kk_rd σ_8 1 v7_7)]) (rest := []) e_X11_chainIn_64 ml_X11_11 rfl (kk_fitR (by decide) (by decide)) (Nat.le_of_ble_eq_true rfl) rfl (s_X11_has Z (σ_8.1 0 9) (kk_rd σ_8 1 v7_7) σ_8 _ h) (fun r_14 h => ?_)
          refine kk_jW0 (P := KK Z sh_M RX11 cX11_chainIn 8 (some .int) (kk_R 3) (kk_Qi Z sh_M Q) 90 [(0, .ref (Z.2.1 0)), (1, .ref (Z.2.1 a1)), (3, .int v3), (4, .int v4), (5, .int v5_6), (6, .int v5_2), (7, .int v7_7)] [] σ_8) h ?_ ?_
          · intro h
            refine kk_iload 4 rfl e_X11_chainIn_90 ?_
            refine kk_iconst ic_1 e_X11_chainIn_92 ?_
            refine kk_iload 6 rfl e_X11_chainIn_93 ?_
            refine kk_ishl e_X11_chainIn_95 ?_
            refine kk_ior e_X11_chainIn_96 ?_
            refine kk_topi (fun v5_16 ev5_16 => ?_)
            replace h := h v5_16 ev5_16
            refine kk_istore (lv' := [(5, .int v5_16), (0, .ref (Z.2.1 0)), (1, .ref (Z.2.1 a1)), (3, .int v3), (4, .int v4), (6, .int v5_2), (7, .int v7_7)]) e_X11_chainIn_97 (by decide) rfl ?_
            refine kk_aload_n 1 rfl e_X11_chainIn_99 ?_
            refine kk_dup rfl e_X11_chainIn_100 ?_
            refine kk_geti e_X11_chainIn_101 fl_X11_146 rfl rfl ?_
            refine kk_iconst ic_1 e_X11_chainIn_104 ?_
            refine kk_aload_n 1 rfl e_X11_chainIn_105 ?_
            refine kk_getr e_X11_chainIn_106 fl_X11_24 rfl rfl ?_
            refine kk_iload 6 rfl e_X11_chainIn_109 ?_
            refine kk_iald e_X11_chainIn_111 rfl h.1 ?_
            replace h := h.2
            refine kk_ishl e_X11_chainIn_112 ?_
            refine kk_iconst ic_1 e_X11_chainIn_113 ?_
            refine kk_aload_n 1 rfl e_X11_chainIn_114 ?_
            refine kk_getr e_X11_chainIn_115 fl_X11_28 rfl rfl ?_
            refine kk_iload 6 rfl e_X11_chainIn_118 ?_
            refine kk_iald e_X11_chainIn_120 rfl h.1 ?_
            replace h := h.2
            refine kk_ishl e_X11_chainIn_121 ?_
            refine kk_ior e_X11_chainIn_122 ?_
            refine kk_ior e_X11_chainIn_123 ?_
            refine kk_puti e_X11_chainIn_124 fl_X11_146 fn_X11_9 rfl rfl ?_
            refine kk_tops (fun σ_17 eσ_17 => ?_)
            replace h := h σ_17 eσ_17
            exact kk_sub [1, 2, 3, 4, 0, 5, 6] rfl (hJ_12 v5_16 σ_17 h)
          · intro J_15 hJ_15 h
            refine kk_if_ne e_X11_chainIn_67 (fun c_20 => ?_) (fun c_20 => ?_)
            · replace h := h.1 c_20
              exact kk_sub [0, 1, 2, 3, 4, 5, 6] rfl (hJ_15 h)
            · replace h := h.2 c_20
              refine kk_aload_n 0 rfl e_X11_chainIn_70 ?_
              refine kk_geti e_X11_chainIn_71 fl_X11_146 rfl rfl ?_
              refine kk_aload_n 0 rfl e_X11_chainIn_74 ?_
              refine kk_getr e_X11_chainIn_75 fl_X11_28 rfl rfl ?_
              refine kk_iload 6 rfl e_X11_chainIn_78 ?_
              refine kk_iald e_X11_chainIn_80 rfl h.1 ?_
              replace h := h.2
              refine kk_callSip (As := [.int (σ_8.1 0 9), .int (kk_rd σ_8 2 v7_7)]) (rest := []) e_X11_chainIn_81 ml_X11_11 rfl (kk_fitR (by decide) (by decide)) (Nat.le_of_ble_eq_true rfl) rfl (s_X11_has Z (σ_8.1 0 9) (kk_rd σ_8 2 v7_7) σ_8 _ h) (fun r_18 h => ?_)
              refine kk_if_ne e_X11_chainIn_84 (fun c_19 => ?_) (fun c_19 => ?_)
              · replace h := h.1 c_19
                exact kk_sub [0, 1, 2, 3, 4, 5, 6] rfl (hJ_15 h)
              · replace h := h.2 c_19
                refine kk_goto e_X11_chainIn_87 ?_
                exact kk_sub [0, 1, 2, 3, 4, 5, 6] rfl (hJ_12 v5_6 σ_8 h)
        · intro J_13 hJ_13 h
          refine kk_icmp_eq e_X11_chainIn_41 (fun c_22 => ?_) (fun c_22 => ?_)
          · replace h := h.1 c_22
            exact kk_sub [0, 1, 2, 3, 4, 5, 6] rfl (hJ_13 h)
          · replace h := h.2 c_22
            refine kk_aload_n 1 rfl e_X11_chainIn_44 ?_
            refine kk_iload 6 rfl e_X11_chainIn_45 ?_
            refine kk_iald e_X11_chainIn_47 ha1 h.1 ?_
            replace h := h.2
            refine kk_iload 3 rfl e_X11_chainIn_48 ?_
            refine kk_icmp_ne e_X11_chainIn_50 (fun c_21 => ?_) (fun c_21 => ?_)
            · replace h := h.1 c_21
              exact kk_sub [0, 1, 2, 3, 4, 5, 6] rfl (hJ_12 v5_6 σ_8 h)
            · replace h := h.2 c_21
              exact kk_sub [0, 1, 2, 3, 4, 5, 6] rfl (hJ_13 h)
theorem e_X11_isPost_0 : kk_d cX11_isPost 0 (.iload_n 1) 1 1 := ⟨by decide +kernel, rfl⟩
theorem e_X11_isPost_1 : kk_d cX11_isPost 1 (.iconst 0) 1 2 := ⟨by decide +kernel, rfl⟩
theorem e_X11_isPost_2 : kk_d cX11_isPost 2 (.aload_n 0) 1 3 := ⟨by decide +kernel, rfl⟩
theorem e_X11_isPost_3 : kk_d cX11_isPost 3 (.getfield 21) 3 6 := ⟨by decide +kernel, rfl⟩
theorem e_X11_isPost_6 : kk_d cX11_isPost 6 (.iconst 1) 1 7 := ⟨by decide +kernel, rfl⟩
theorem e_X11_isPost_7 : kk_d cX11_isPost 7 .isub 1 8 := ⟨by decide +kernel, rfl⟩
theorem e_X11_isPost_8 : kk_d cX11_isPost 8 (.invokestatic 92) 3 11 := ⟨by decide +kernel, rfl⟩
theorem e_X11_isPost_11 : kk_d cX11_isPost 11 .ireturn 1 12 := ⟨by decide +kernel, rfl⟩
set_option maxRecDepth 4000 in
theorem s_X11_isPost (Z : kk_Z) (v1 : Int32) (σ : kk_St) (Q : Int32 → Prop) (h : f_X11_isPost v1 σ Q) : kk_M Z sh_M yX11_isPost cX11_isPost 2 (some .boolean) (kk_R 3) [.ref (Z.2.1 0), .int v1] σ (kk_Qi Z sh_M (fun r σ' => σ' = σ ∧ Q r)) := by
  unfold f_X11_isPost at h
  refine kk_met (own := RX11) (by decide) rfl (Nat.le_of_ble_eq_true rfl) rfl ?_
  refine kk_iload_n 1 rfl e_X11_isPost_0 ?_
  refine kk_iconst ic_0 e_X11_isPost_1 ?_
  refine kk_aload_n 0 rfl e_X11_isPost_2 ?_
  refine kk_geti e_X11_isPost_3 fl_X11_21 rfl rfl ?_
  refine kk_iconst ic_1 e_X11_isPost_6 ?_
  refine kk_isub e_X11_isPost_7 ?_
  refine kk_callSip (As := [.int v1, .int (0 : Int32), .int ((σ.1 0 1) - (1 : Int32))]) (rest := []) e_X11_isPost_8 ml_X11_92 rfl (kk_fitR (by decide) (by decide)) (Nat.le_of_ble_eq_true rfl) rfl (s_X11_in Z v1 (0 : Int32) ((σ.1 0 1) - (1 : Int32)) σ _ h) (fun r_1 h => ?_)
  exact kk_zret e_X11_isPost_11 h.1 ⟨rfl, h.2⟩
theorem e_X11_isChain_0 : kk_d cX11_isChain 0 (.aload_n 0) 1 1 := ⟨by decide +kernel, rfl⟩
theorem e_X11_isChain_1 : kk_d cX11_isChain 1 (.iload_n 1) 1 2 := ⟨by decide +kernel, rfl⟩
theorem e_X11_isChain_2 : kk_d cX11_isChain 2 (.invokevirtual 106) 3 5 := ⟨by decide +kernel, rfl⟩
theorem e_X11_isChain_5 : kk_dj cX11_isChain 5 (.ifCond .eq 16) 3 (16) 8 21 := ⟨by decide +kernel, rfl, by decide⟩
theorem e_X11_isChain_22 : kk_d cX11_isChain 22 .ireturn 1 23 := ⟨by decide +kernel, rfl⟩
theorem e_X11_isChain_21 : kk_d cX11_isChain 21 (.iconst 0) 1 22 := ⟨by decide +kernel, rfl⟩
theorem e_X11_isChain_8 : kk_d cX11_isChain 8 (.aload_n 0) 1 9 := ⟨by decide +kernel, rfl⟩
theorem e_X11_isChain_9 : kk_d cX11_isChain 9 (.iload_n 2) 1 10 := ⟨by decide +kernel, rfl⟩
theorem e_X11_isChain_10 : kk_d cX11_isChain 10 (.iload_n 3) 1 11 := ⟨by decide +kernel, rfl⟩
theorem e_X11_isChain_11 : kk_d cX11_isChain 11 (.invokevirtual 134) 3 14 := ⟨by decide +kernel, rfl⟩
theorem e_X11_isChain_14 : kk_dj cX11_isChain 14 (.ifCond .eq 7) 3 (7) 17 21 := ⟨by decide +kernel, rfl, by decide⟩
theorem e_X11_isChain_17 : kk_d cX11_isChain 17 (.iconst 1) 1 18 := ⟨by decide +kernel, rfl⟩
theorem e_X11_isChain_18 : kk_dj cX11_isChain 18 (.goto 4) 3 (4) 21 22 := ⟨by decide +kernel, rfl, by decide⟩
set_option maxRecDepth 4000 in
theorem s_X11_isChain (Z : kk_Z) (v1 : Int32) (v2 : Int32) (v3 : Int32) (σ : kk_St) (Q : Int32 → Prop) (h : f_X11_isChain v1 v2 v3 σ Q) : kk_M Z sh_M yX11_isChain cX11_isChain 4 (some .boolean) (kk_R 8) [.ref (Z.2.1 0), .int v1, .int v2, .int v3] σ (kk_Qi Z sh_M (fun r σ' => σ' = σ ∧ Q r)) := by
  unfold f_X11_isChain at h
  refine kk_met (own := RX11) (by decide) rfl (Nat.le_of_ble_eq_true rfl) rfl ?_
  refine kk_aload_n 0 rfl e_X11_isChain_0 ?_
  refine kk_iload_n 1 rfl e_X11_isChain_1 ?_
  refine kk_callVip (As := [.int v1]) (rest := []) e_X11_isChain_2 ml_X11_106 ⟨_, _, _, _, rfl, rfl⟩ rfl (kk_fitR (by decide) (by decide)) (Nat.le_of_ble_eq_true rfl) rfl (s_X11_isPost Z v1 σ _ h) (fun r_1 h => ?_)
  refine kk_jW1 (P := fun (t_2 : Int32) => KK Z sh_M RX11 cX11_isChain 4 (some .boolean) (kk_R 8) (kk_Qi Z sh_M (fun r σ' => σ' = σ ∧ Q r)) 22 [] [.int t_2] σ) h ?_ ?_
  · intro t_2 h
    exact kk_zret e_X11_isChain_22 h.1 ⟨rfl, h.2⟩
  · intro J_3 hJ_3 h
    refine kk_jW0 (P := KK Z sh_M RX11 cX11_isChain 4 (some .boolean) (kk_R 8) (kk_Qi Z sh_M (fun r σ' => σ' = σ ∧ Q r)) 21 [] [] σ) h ?_ ?_
    · intro h
      refine kk_iconst ic_0 e_X11_isChain_21 ?_
      exact kk_sub [] rfl (hJ_3 (0 : Int32) h)
    · intro J_4 hJ_4 h
      refine kk_if_eq e_X11_isChain_5 (fun c_7 => ?_) (fun c_7 => ?_)
      · replace h := h.1 c_7
        exact kk_sub [] rfl (hJ_4 h)
      · replace h := h.2 c_7
        refine kk_aload_n 0 rfl e_X11_isChain_8 ?_
        refine kk_iload_n 2 rfl e_X11_isChain_9 ?_
        refine kk_iload_n 3 rfl e_X11_isChain_10 ?_
        refine kk_callVip (As := [.int v2, .int v3]) (rest := []) e_X11_isChain_11 ml_X11_134 ⟨_, _, _, _, rfl, rfl⟩ rfl (kk_fitR (by decide) (by decide)) (Nat.le_of_ble_eq_true rfl) rfl (s_X11_areColours Z v2 v3 σ _ h) (fun r_5 h => ?_)
        refine kk_if_eq e_X11_isChain_14 (fun c_6 => ?_) (fun c_6 => ?_)
        · replace h := h.1 c_6
          exact kk_sub [] rfl (hJ_4 h)
        · replace h := h.2 c_6
          refine kk_iconst ic_1 e_X11_isChain_17 ?_
          refine kk_goto e_X11_isChain_18 ?_
          exact kk_sub [] rfl (hJ_3 (1 : Int32) h)
theorem e_X11_chain_0 : kk_d cX11_chain 0 (.aload_n 0) 1 1 := ⟨by decide +kernel, rfl⟩
theorem e_X11_chain_1 : kk_d cX11_chain 1 (.iload_n 1) 1 2 := ⟨by decide +kernel, rfl⟩
theorem e_X11_chain_2 : kk_d cX11_chain 2 (.iload_n 2) 1 3 := ⟨by decide +kernel, rfl⟩
theorem e_X11_chain_3 : kk_d cX11_chain 3 (.iload_n 3) 1 4 := ⟨by decide +kernel, rfl⟩
theorem e_X11_chain_4 : kk_d cX11_chain 4 (.invokevirtual 149) 3 7 := ⟨by decide +kernel, rfl⟩
theorem e_X11_chain_7 : kk_dj cX11_chain 7 (.ifCond .ne 5) 3 (5) 10 12 := ⟨by decide +kernel, rfl, by decide⟩
theorem e_X11_chain_12 : kk_d cX11_chain 12 (.aload_n 0) 1 13 := ⟨by decide +kernel, rfl⟩
theorem e_X11_chain_13 : kk_d cX11_chain 13 (.aload_n 0) 1 14 := ⟨by decide +kernel, rfl⟩
theorem e_X11_chain_14 : kk_d cX11_chain 14 (.getfield 31) 3 17 := ⟨by decide +kernel, rfl⟩
theorem e_X11_chain_17 : kk_d cX11_chain 17 (.iload_n 1) 1 18 := ⟨by decide +kernel, rfl⟩
theorem e_X11_chain_18 : kk_d cX11_chain 18 (.iload_n 2) 1 19 := ⟨by decide +kernel, rfl⟩
theorem e_X11_chain_19 : kk_d cX11_chain 19 (.iload_n 3) 1 20 := ⟨by decide +kernel, rfl⟩
theorem e_X11_chain_20 : kk_d cX11_chain 20 (.invokevirtual 152) 3 23 := ⟨by decide +kernel, rfl⟩
theorem e_X11_chain_23 : kk_d cX11_chain 23 (.istore 5) 2 25 := ⟨by decide +kernel, rfl⟩
theorem e_X11_chain_25 : kk_d cX11_chain 25 (.aload_n 0) 1 26 := ⟨by decide +kernel, rfl⟩
theorem e_X11_chain_26 : kk_d cX11_chain 26 (.iload 5) 2 28 := ⟨by decide +kernel, rfl⟩
theorem e_X11_chain_28 : kk_d cX11_chain 28 (.iload_n 2) 1 29 := ⟨by decide +kernel, rfl⟩
theorem e_X11_chain_29 : kk_d cX11_chain 29 (.invokevirtual 163) 3 32 := ⟨by decide +kernel, rfl⟩
theorem e_X11_chain_32 : kk_d cX11_chain 32 (.istore 6) 2 34 := ⟨by decide +kernel, rfl⟩
theorem e_X11_chain_34 : kk_d cX11_chain 34 (.aload_n 0) 1 35 := ⟨by decide +kernel, rfl⟩
theorem e_X11_chain_35 : kk_d cX11_chain 35 (.iload 5) 2 37 := ⟨by decide +kernel, rfl⟩
theorem e_X11_chain_37 : kk_d cX11_chain 37 (.iload_n 3) 1 38 := ⟨by decide +kernel, rfl⟩
theorem e_X11_chain_38 : kk_d cX11_chain 38 (.invokevirtual 163) 3 41 := ⟨by decide +kernel, rfl⟩
theorem e_X11_chain_41 : kk_d cX11_chain 41 (.istore 7) 2 43 := ⟨by decide +kernel, rfl⟩
theorem e_X11_chain_43 : kk_d cX11_chain 43 (.iload 4) 2 45 := ⟨by decide +kernel, rfl⟩
theorem e_X11_chain_45 : decode cX11_chain 45 = .ok (.tableswitch 89 0 3 #[31, 34, 39, 65], 31) := by decide +kernel
theorem e_X11_chain_76 : kk_d cX11_chain 76 (.iload 5) 2 78 := ⟨by decide +kernel, rfl⟩
theorem e_X11_chain_78 : kk_d cX11_chain 78 .ireturn 1 79 := ⟨by decide +kernel, rfl⟩
theorem e_X11_chain_79 : kk_d cX11_chain 79 (.aload_n 0) 1 80 := ⟨by decide +kernel, rfl⟩
theorem e_X11_chain_80 : kk_d cX11_chain 80 (.getfield 146) 3 83 := ⟨by decide +kernel, rfl⟩
theorem e_X11_chain_83 : kk_d cX11_chain 83 .ireturn 1 84 := ⟨by decide +kernel, rfl⟩
theorem e_X11_chain_84 : kk_d cX11_chain 84 (.iload 5) 2 86 := ⟨by decide +kernel, rfl⟩
theorem e_X11_chain_86 : kk_dj cX11_chain 86 (.ifCond .eq 22) 3 (22) 89 108 := ⟨by decide +kernel, rfl, by decide⟩
theorem e_X11_chain_109 : kk_d cX11_chain 109 .ireturn 1 110 := ⟨by decide +kernel, rfl⟩
theorem e_X11_chain_108 : kk_d cX11_chain 108 (.iconst 0) 1 109 := ⟨by decide +kernel, rfl⟩
theorem e_X11_chain_89 : kk_d cX11_chain 89 (.iload 5) 2 91 := ⟨by decide +kernel, rfl⟩
theorem e_X11_chain_91 : kk_d cX11_chain 91 (.invokestatic 160) 3 94 := ⟨by decide +kernel, rfl⟩
theorem e_X11_chain_94 : kk_d cX11_chain 94 (.aload_n 0) 1 95 := ⟨by decide +kernel, rfl⟩
theorem e_X11_chain_95 : kk_d cX11_chain 95 (.getfield 146) 3 98 := ⟨by decide +kernel, rfl⟩
theorem e_X11_chain_98 : kk_d cX11_chain 98 (.invokestatic 160) 3 101 := ⟨by decide +kernel, rfl⟩
theorem e_X11_chain_101 : kk_dj cX11_chain 101 (.if_icmp .ne 7) 3 (7) 104 108 := ⟨by decide +kernel, rfl, by decide⟩
theorem e_X11_chain_104 : kk_d cX11_chain 104 (.iconst 1) 1 105 := ⟨by decide +kernel, rfl⟩
theorem e_X11_chain_105 : kk_dj cX11_chain 105 (.goto 4) 3 (4) 108 109 := ⟨by decide +kernel, rfl, by decide⟩
theorem e_X11_chain_110 : kk_d cX11_chain 110 (.iload 6) 2 112 := ⟨by decide +kernel, rfl⟩
theorem e_X11_chain_112 : kk_d cX11_chain 112 (.iload 7) 2 114 := ⟨by decide +kernel, rfl⟩
theorem e_X11_chain_114 : kk_dj cX11_chain 114 (.if_icmp .le 7) 3 (7) 117 121 := ⟨by decide +kernel, rfl, by decide⟩
theorem e_X11_chain_133 : kk_d cX11_chain 133 .ireturn 1 134 := ⟨by decide +kernel, rfl⟩
theorem e_X11_chain_121 : kk_d cX11_chain 121 (.iload 6) 2 123 := ⟨by decide +kernel, rfl⟩
theorem e_X11_chain_123 : kk_d cX11_chain 123 (.iload 7) 2 125 := ⟨by decide +kernel, rfl⟩
theorem e_X11_chain_125 : kk_dj cX11_chain 125 (.if_icmp .ge 7) 3 (7) 128 132 := ⟨by decide +kernel, rfl, by decide⟩
theorem e_X11_chain_132 : kk_d cX11_chain 132 (.iconst 0) 1 133 := ⟨by decide +kernel, rfl⟩
theorem e_X11_chain_128 : kk_d cX11_chain 128 (.iconst (-1)) 1 129 := ⟨by decide +kernel, rfl⟩
theorem e_X11_chain_129 : kk_dj cX11_chain 129 (.goto 4) 3 (4) 132 133 := ⟨by decide +kernel, rfl, by decide⟩
theorem e_X11_chain_117 : kk_d cX11_chain 117 (.iconst 1) 1 118 := ⟨by decide +kernel, rfl⟩
theorem e_X11_chain_118 : kk_dj cX11_chain 118 (.goto 15) 3 (15) 121 133 := ⟨by decide +kernel, rfl, by decide⟩
theorem e_X11_chain_134 : kk_d cX11_chain 134 (.bipush (-2)) 2 136 := ⟨by decide +kernel, rfl⟩
theorem e_X11_chain_136 : kk_d cX11_chain 136 .ireturn 1 137 := ⟨by decide +kernel, rfl⟩
theorem e_X11_chain_10 : kk_d cX11_chain 10 (.iconst (-1)) 1 11 := ⟨by decide +kernel, rfl⟩
theorem e_X11_chain_11 : kk_d cX11_chain 11 .ireturn 1 12 := ⟨by decide +kernel, rfl⟩
set_option maxRecDepth 4000 in
theorem s_X11_chain (Z : kk_Z) (v1 : Int32) (v2 : Int32) (v3 : Int32) (v4 : Int32) (σ : kk_St) (Q : Int32 → kk_St → Prop) (h : f_X11_chain v1 v2 v3 v4 σ Q) : kk_M Z sh_M yX11_chain cX11_chain 8 (some .int) (kk_R 9) [.ref (Z.2.1 0), .int v1, .int v2, .int v3, .int v4] σ (kk_Qi Z sh_M Q) := by
  unfold f_X11_chain at h
  refine kk_met (own := RX11) (by decide) rfl (Nat.le_of_ble_eq_true rfl) rfl ?_
  refine kk_aload_n 0 rfl e_X11_chain_0 ?_
  refine kk_iload_n 1 rfl e_X11_chain_1 ?_
  refine kk_iload_n 2 rfl e_X11_chain_2 ?_
  refine kk_iload_n 3 rfl e_X11_chain_3 ?_
  refine kk_callVip (As := [.int v1, .int v2, .int v3]) (rest := []) e_X11_chain_4 ml_X11_149 ⟨_, _, _, _, rfl, rfl⟩ rfl (kk_fitR (by decide) (by decide)) (Nat.le_of_ble_eq_true rfl) rfl (s_X11_isChain Z v1 v2 v3 σ _ h) (fun r_1 h => ?_)
  refine kk_if_ne e_X11_chain_7 (fun c_17 => ?_) (fun c_17 => ?_)
  · replace h := h.1 c_17
    refine kk_aload_n 0 rfl e_X11_chain_12 ?_
    refine kk_aload_n 0 rfl e_X11_chain_13 ?_
    refine kk_getr e_X11_chain_14 fl_X11_31 rfl rfl ?_
    refine kk_iload_n 1 rfl e_X11_chain_17 ?_
    refine kk_iload_n 2 rfl e_X11_chain_18 ?_
    refine kk_iload_n 3 rfl e_X11_chain_19 ?_
    refine kk_callVi (As := [.ref (Z.2.1 3), .int v1, .int v2, .int v3]) (rest := []) e_X11_chain_20 ml_X11_152 ⟨_, _, _, _, rfl, rfl⟩ rfl (kk_fitR (by decide) (by decide)) (Nat.le_of_ble_eq_true rfl) rfl (s_X11_chainIn Z 3 20 v1 v2 v3 σ _ rfl h) (fun r_2 σ_3 h => ?_)
    refine kk_istore (lv' := [(5, .int r_2), (0, .ref (Z.2.1 0)), (1, .int v1), (2, .int v2), (3, .int v3), (4, .int v4)]) e_X11_chain_23 (by decide) rfl ?_
    refine kk_aload_n 1 rfl e_X11_chain_25 ?_
    refine kk_iload 0 rfl e_X11_chain_26 ?_
    refine kk_iload_n 3 rfl e_X11_chain_28 ?_
    refine kk_callVip (As := [.int r_2, .int v2]) (rest := []) e_X11_chain_29 ml_X11_163 ⟨_, _, _, _, rfl, rfl⟩ rfl (kk_fitR (by decide) (by decide)) (Nat.le_of_ble_eq_true rfl) rfl (s_X11_manyWith Z r_2 v2 σ_3 _ h) (fun r_4 h => ?_)
    refine kk_istore (lv' := [(6, .int r_4), (5, .int r_2), (0, .ref (Z.2.1 0)), (1, .int v1), (2, .int v2), (3, .int v3), (4, .int v4)]) e_X11_chain_32 (by decide) rfl ?_
    refine kk_aload_n 2 rfl e_X11_chain_34 ?_
    refine kk_iload 1 rfl e_X11_chain_35 ?_
    refine kk_iload_n 5 rfl e_X11_chain_37 ?_
    refine kk_callVip (As := [.int r_2, .int v3]) (rest := []) e_X11_chain_38 ml_X11_163 ⟨_, _, _, _, rfl, rfl⟩ rfl (kk_fitR (by decide) (by decide)) (Nat.le_of_ble_eq_true rfl) rfl (s_X11_manyWith Z r_2 v3 σ_3 _ h) (fun r_5 h => ?_)
    refine kk_istore (lv' := [(7, .int r_5), (6, .int r_4), (5, .int r_2), (0, .ref (Z.2.1 0)), (1, .int v1), (2, .int v2), (3, .int v3), (4, .int v4)]) e_X11_chain_41 (by decide) rfl ?_
    refine kk_iload 7 rfl e_X11_chain_43 ?_
    rcases kk_swc v4 4 (by decide) with ⟨i, hi, hx⟩ | hx
    · rcases (show i = 0 ∨ i = 1 ∨ i = 2 ∨ i = 3 by omega) with rfl | rfl | rfl | rfl
      · replace h := h.1 hx
        refine kk_swIn (tgt := 76) e_X11_chain_45 0 hx (by decide) (by decide) rfl (by decide) ?_
        refine kk_iload 2 rfl e_X11_chain_76 ?_
        exact kk_iret e_X11_chain_78 h
      · replace h := h.2.1 hx
        refine kk_swIn (tgt := 79) e_X11_chain_45 1 hx (by decide) (by decide) rfl (by decide) ?_
        refine kk_aload_n 3 rfl e_X11_chain_79 ?_
        refine kk_geti e_X11_chain_80 fl_X11_146 rfl rfl ?_
        exact kk_iret e_X11_chain_83 h
      · replace h := h.2.2.1 hx
        refine kk_swIn (tgt := 84) e_X11_chain_45 2 hx (by decide) (by decide) rfl (by decide) ?_
        refine kk_iload 2 rfl e_X11_chain_84 ?_
        refine kk_jW1 (P := fun (t_6 : Int32) => KK Z sh_M RX11 cX11_chain 8 (some .int) (kk_R 9) (kk_Qi Z sh_M Q) 109 [] [.int t_6] σ_3) h ?_ ?_
        · intro t_6 h
          exact kk_iret e_X11_chain_109 h
        · intro J_7 hJ_7 h
          refine kk_jW0 (P := KK Z sh_M RX11 cX11_chain 8 (some .int) (kk_R 9) (kk_Qi Z sh_M Q) 108 [] [] σ_3) h ?_ ?_
          · intro h
            refine kk_iconst ic_0 e_X11_chain_108 ?_
            exact kk_sub [] rfl (hJ_7 (0 : Int32) h)
          · intro J_8 hJ_8 h
            refine kk_if_eq e_X11_chain_86 (fun c_12 => ?_) (fun c_12 => ?_)
            · replace h := h.1 c_12
              exact kk_sub [] rfl (hJ_8 h)
            · replace h := h.2 c_12
              refine kk_iload 2 rfl e_X11_chain_89 ?_
              refine kk_callSip (As := [.int r_2]) (rest := []) e_X11_chain_91 ml_X11_160 rfl (kk_fitR (by decide) (by decide)) (Nat.le_of_ble_eq_true rfl) rfl (s_X11_bitsOf Z r_2 σ_3 _ h) (fun r_9 h => ?_)
              refine kk_aload_n 3 rfl e_X11_chain_94 ?_
              refine kk_geti e_X11_chain_95 fl_X11_146 rfl rfl ?_
              refine kk_callSip (As := [.int (σ_3.1 0 9)]) (rest := [.int r_9]) e_X11_chain_98 ml_X11_160 rfl (kk_fitR (by decide) (by decide)) (Nat.le_of_ble_eq_true rfl) rfl (s_X11_bitsOf Z (σ_3.1 0 9) σ_3 _ h) (fun r_10 h => ?_)
              refine kk_icmp_ne e_X11_chain_101 (fun c_11 => ?_) (fun c_11 => ?_)
              · replace h := h.1 c_11
                exact kk_sub [] rfl (hJ_8 h)
              · replace h := h.2 c_11
                refine kk_iconst ic_1 e_X11_chain_104 ?_
                refine kk_goto e_X11_chain_105 ?_
                exact kk_sub [] rfl (hJ_7 (1 : Int32) h)
      · replace h := h.2.2.2.1 hx
        refine kk_swIn (tgt := 110) e_X11_chain_45 3 hx (by decide) (by decide) rfl (by decide) ?_
        refine kk_iload 1 rfl e_X11_chain_110 ?_
        refine kk_iload 0 rfl e_X11_chain_112 ?_
        refine kk_jW1 (P := fun (t_13 : Int32) => KK Z sh_M RX11 cX11_chain 8 (some .int) (kk_R 9) (kk_Qi Z sh_M Q) 133 [] [.int t_13] σ_3) h ?_ ?_
        · intro t_13 h
          exact kk_iret e_X11_chain_133 h
        · intro J_14 hJ_14 h
          refine kk_icmp_le e_X11_chain_114 (fun c_16 => ?_) (fun c_16 => ?_)
          · replace h := h.1 c_16
            refine kk_iload 1 rfl e_X11_chain_121 ?_
            refine kk_iload 0 rfl e_X11_chain_123 ?_
            refine kk_icmp_ge e_X11_chain_125 (fun c_15 => ?_) (fun c_15 => ?_)
            · replace h := h.1 c_15
              refine kk_iconst ic_0 e_X11_chain_132 ?_
              exact kk_sub [] rfl (hJ_14 (0 : Int32) h)
            · replace h := h.2 c_15
              refine kk_iconst ic_m1 e_X11_chain_128 ?_
              refine kk_goto e_X11_chain_129 ?_
              exact kk_sub [] rfl (hJ_14 (-1 : Int32) h)
          · replace h := h.2 c_16
            refine kk_iconst ic_1 e_X11_chain_117 ?_
            refine kk_goto e_X11_chain_118 ?_
            exact kk_sub [] rfl (hJ_14 (1 : Int32) h)
    · replace h := h.2.2.2.2 (by omega)
      refine kk_swOut (tgt := 134) e_X11_chain_45 (by omega) (by decide) ?_
      refine kk_bipush bp_m2 e_X11_chain_134 ?_
      exact kk_iret e_X11_chain_136 h
  · replace h := h.2 c_17
    refine kk_iconst ic_m1 e_X11_chain_10 ?_
    exact kk_iret e_X11_chain_11 h
theorem e_X11_chains_0 : kk_d cX11_chains 0 (.aload_n 0) 1 1 := ⟨by decide +kernel, rfl⟩
theorem e_X11_chains_1 : kk_d cX11_chains 1 (.iload_n 1) 1 2 := ⟨by decide +kernel, rfl⟩
theorem e_X11_chains_2 : kk_d cX11_chains 2 (.iload_n 2) 1 3 := ⟨by decide +kernel, rfl⟩
theorem e_X11_chains_3 : kk_d cX11_chains 3 (.invokevirtual 134) 3 6 := ⟨by decide +kernel, rfl⟩
theorem e_X11_chains_6 : kk_dj cX11_chains 6 (.ifCond .ne 5) 3 (5) 9 11 := ⟨by decide +kernel, rfl, by decide⟩
theorem e_X11_chains_11 : kk_d cX11_chains 11 (.iconst 0) 1 12 := ⟨by decide +kernel, rfl⟩
theorem e_X11_chains_12 : kk_d cX11_chains 12 (.istore_n 3) 1 13 := ⟨by decide +kernel, rfl⟩
theorem e_X11_chains_13 : kk_d cX11_chains 13 (.iconst 0) 1 14 := ⟨by decide +kernel, rfl⟩
theorem e_X11_chains_14 : kk_d cX11_chains 14 (.istore 4) 2 16 := ⟨by decide +kernel, rfl⟩
theorem e_X11_chains_16 : kk_d cX11_chains 16 (.iconst 0) 1 17 := ⟨by decide +kernel, rfl⟩
theorem e_X11_chains_17 : kk_d cX11_chains 17 (.istore 5) 2 19 := ⟨by decide +kernel, rfl⟩
theorem e_X11_chains_19 : kk_d cX11_chains 19 (.iload 5) 2 21 := ⟨by decide +kernel, rfl⟩
theorem e_X11_chains_21 : kk_d cX11_chains 21 (.aload_n 0) 1 22 := ⟨by decide +kernel, rfl⟩
theorem e_X11_chains_22 : kk_d cX11_chains 22 (.getfield 96) 3 25 := ⟨by decide +kernel, rfl⟩
theorem e_X11_chains_25 : kk_dj cX11_chains 25 (.if_icmp .ge 66) 3 (66) 28 91 := ⟨by decide +kernel, rfl, by decide⟩
theorem e_X11_chains_91 : kk_d cX11_chains 91 (.iload 4) 2 93 := ⟨by decide +kernel, rfl⟩
theorem e_X11_chains_93 : kk_d cX11_chains 93 .ireturn 1 94 := ⟨by decide +kernel, rfl⟩
theorem e_X11_chains_28 : kk_d cX11_chains 28 (.iload_n 3) 1 29 := ⟨by decide +kernel, rfl⟩
theorem e_X11_chains_29 : kk_d cX11_chains 29 (.iload 5) 2 31 := ⟨by decide +kernel, rfl⟩
theorem e_X11_chains_31 : kk_d cX11_chains 31 (.invokestatic 11) 3 34 := ⟨by decide +kernel, rfl⟩
theorem e_X11_chains_34 : kk_dj cX11_chains 34 (.ifCond .ne 51) 3 (51) 37 85 := ⟨by decide +kernel, rfl, by decide⟩
theorem e_X11_chains_85 : kk_d cX11_chains 85 (.iinc 5 1) 3 88 := ⟨by decide +kernel, rfl⟩
theorem e_X11_chains_88 : kk_dj cX11_chains 88 (.goto (-69)) 3 (-69) 91 19 := ⟨by decide +kernel, rfl, by decide⟩
theorem e_X11_chains_37 : kk_d cX11_chains 37 (.aload_n 0) 1 38 := ⟨by decide +kernel, rfl⟩
theorem e_X11_chains_38 : kk_d cX11_chains 38 (.getfield 31) 3 41 := ⟨by decide +kernel, rfl⟩
theorem e_X11_chains_41 : kk_d cX11_chains 41 (.iload 5) 2 43 := ⟨by decide +kernel, rfl⟩
theorem e_X11_chains_43 : kk_d cX11_chains 43 .iaload 1 44 := ⟨by decide +kernel, rfl⟩
theorem e_X11_chains_44 : kk_d cX11_chains 44 (.iload_n 1) 1 45 := ⟨by decide +kernel, rfl⟩
theorem e_X11_chains_45 : kk_dj cX11_chains 45 (.if_icmp .eq 17) 3 (17) 48 62 := ⟨by decide +kernel, rfl, by decide⟩
theorem e_X11_chains_62 : kk_d cX11_chains 62 (.iload_n 3) 1 63 := ⟨by decide +kernel, rfl⟩
theorem e_X11_chains_63 : kk_d cX11_chains 63 (.aload_n 0) 1 64 := ⟨by decide +kernel, rfl⟩
theorem e_X11_chains_64 : kk_d cX11_chains 64 (.aload_n 0) 1 65 := ⟨by decide +kernel, rfl⟩
theorem e_X11_chains_65 : kk_d cX11_chains 65 (.getfield 31) 3 68 := ⟨by decide +kernel, rfl⟩
theorem e_X11_chains_68 : kk_d cX11_chains 68 (.aload_n 0) 1 69 := ⟨by decide +kernel, rfl⟩
theorem e_X11_chains_69 : kk_d cX11_chains 69 (.getfield 24) 3 72 := ⟨by decide +kernel, rfl⟩
theorem e_X11_chains_72 : kk_d cX11_chains 72 (.iload 5) 2 74 := ⟨by decide +kernel, rfl⟩
theorem e_X11_chains_74 : kk_d cX11_chains 74 .iaload 1 75 := ⟨by decide +kernel, rfl⟩
theorem e_X11_chains_75 : kk_d cX11_chains 75 (.iload_n 1) 1 76 := ⟨by decide +kernel, rfl⟩
theorem e_X11_chains_76 : kk_d cX11_chains 76 (.iload_n 2) 1 77 := ⟨by decide +kernel, rfl⟩
theorem e_X11_chains_77 : kk_d cX11_chains 77 (.invokevirtual 152) 3 80 := ⟨by decide +kernel, rfl⟩
theorem e_X11_chains_80 : kk_d cX11_chains 80 .ior 1 81 := ⟨by decide +kernel, rfl⟩
theorem e_X11_chains_81 : kk_d cX11_chains 81 (.istore_n 3) 1 82 := ⟨by decide +kernel, rfl⟩
theorem e_X11_chains_82 : kk_d cX11_chains 82 (.iinc 4 1) 3 85 := ⟨by decide +kernel, rfl⟩
theorem e_X11_chains_48 : kk_d cX11_chains 48 (.aload_n 0) 1 49 := ⟨by decide +kernel, rfl⟩
theorem e_X11_chains_49 : kk_d cX11_chains 49 (.getfield 31) 3 52 := ⟨by decide +kernel, rfl⟩
theorem e_X11_chains_52 : kk_d cX11_chains 52 (.iload 5) 2 54 := ⟨by decide +kernel, rfl⟩
theorem e_X11_chains_54 : kk_d cX11_chains 54 .iaload 1 55 := ⟨by decide +kernel, rfl⟩
theorem e_X11_chains_55 : kk_d cX11_chains 55 (.iload_n 2) 1 56 := ⟨by decide +kernel, rfl⟩
theorem e_X11_chains_56 : kk_dj cX11_chains 56 (.if_icmp .eq 6) 3 (6) 59 62 := ⟨by decide +kernel, rfl, by decide⟩
theorem e_X11_chains_59 : kk_dj cX11_chains 59 (.goto 26) 3 (26) 62 85 := ⟨by decide +kernel, rfl, by decide⟩
theorem e_X11_chains_9 : kk_d cX11_chains 9 (.iconst (-1)) 1 10 := ⟨by decide +kernel, rfl⟩
theorem e_X11_chains_10 : kk_d cX11_chains 10 .ireturn 1 11 := ⟨by decide +kernel, rfl⟩
set_option maxRecDepth 4000 in
theorem s_X11_chains (Z : kk_Z) (v1 : Int32) (v2 : Int32) (σ : kk_St) (Q : Int32 → kk_St → Prop) (h : f_X11_chains v1 v2 σ Q) : kk_M Z sh_M yX11_chains cX11_chains 6 (some .int) (kk_R 8) [.ref (Z.2.1 0), .int v1, .int v2] σ (kk_Qi Z sh_M Q) := by
  unfold f_X11_chains at h
  refine kk_met (own := RX11) (by decide) rfl (Nat.le_of_ble_eq_true rfl) rfl ?_
  refine kk_aload_n 0 rfl e_X11_chains_0 ?_
  refine kk_iload_n 1 rfl e_X11_chains_1 ?_
  refine kk_iload_n 2 rfl e_X11_chains_2 ?_
  refine kk_callVip (As := [.int v1, .int v2]) (rest := []) e_X11_chains_3 ml_X11_134 ⟨_, _, _, _, rfl, rfl⟩ rfl (kk_fitR (by decide) (by decide)) (Nat.le_of_ble_eq_true rfl) rfl (s_X11_areColours Z v1 v2 σ _ h) (fun r_1 h => ?_)
  refine kk_if_ne e_X11_chains_6 (fun c_19 => ?_) (fun c_19 => ?_)
  · replace h := h.1 c_19
    refine kk_iconst ic_0 e_X11_chains_11 ?_
    refine kk_istore_n (lv' := [(3, .int (0 : Int32)), (0, .ref (Z.2.1 0)), (1, .int v1), (2, .int v2)]) e_X11_chains_12 rfl (by decide) rfl ?_
    refine kk_iconst ic_0 e_X11_chains_13 ?_
    refine kk_istore (lv' := [(4, .int (0 : Int32)), (3, .int (0 : Int32)), (0, .ref (Z.2.1 0)), (1, .int v1), (2, .int v2)]) e_X11_chains_14 (by decide) rfl ?_
    refine kk_iconst ic_0 e_X11_chains_16 ?_
    refine kk_istore (lv' := [(5, .int (0 : Int32)), (4, .int (0 : Int32)), (3, .int (0 : Int32)), (0, .ref (Z.2.1 0)), (1, .int v1), (2, .int v2)]) e_X11_chains_17 (by decide) rfl ?_
    refine kk_sub [3, 4, 5, 2, 1, 0] rfl ?_
    refine kk_lpW4 (P := fun (v3_2 : Int32) (v4_3 : Int32) (v5_4 : Int32) (σ_5 : kk_St) => KK Z sh_M RX11 cX11_chains 6 (some .int) (kk_R 8) (kk_Qi Z sh_M Q) 19 [(0, .ref (Z.2.1 0)), (1, .int v1), (2, .int v2), (3, .int v3_2), (4, .int v4_3), (5, .int v5_4)] [] σ_5) ?_ h
    intro rec_6 hrec_6 v3_2 v4_3 v5_4 σ_5 h
    refine kk_iload 5 rfl e_X11_chains_19 ?_
    refine kk_aload_n 0 rfl e_X11_chains_21 ?_
    refine kk_geti e_X11_chains_22 fl_X11_96 rfl rfl ?_
    refine kk_icmp_ge e_X11_chains_25 (fun c_18 => ?_) (fun c_18 => ?_)
    · replace h := h.1 c_18
      refine kk_iload 4 rfl e_X11_chains_91 ?_
      exact kk_iret e_X11_chains_93 h
    · replace h := h.2 c_18
      refine kk_iload_n 3 rfl e_X11_chains_28 ?_
      refine kk_iload 5 rfl e_X11_chains_29 ?_
      refine kk_callSip (As := [.int v3_2, .int v5_4]) (rest := []) e_X11_chains_31 ml_X11_11 rfl (kk_fitR (by decide) (by decide)) (Nat.le_of_ble_eq_true rfl) rfl (s_X11_has Z v3_2 v5_4 σ_5 _ h) (fun r_7 h => ?_)
      refine kk_jW3 (P := fun (v3_8 : Int32) (v4_9 : Int32) (σ_10 : kk_St) => KK Z sh_M RX11 cX11_chains 6 (some .int) (kk_R 8) (kk_Qi Z sh_M Q) 85 [(0, .ref (Z.2.1 0)), (1, .int v1), (2, .int v2), (3, .int v3_8), (4, .int v4_9), (5, .int v5_4)] [] σ_10) h ?_ ?_
      · intro v3_8 v4_9 σ_10 h
        refine kk_iinc (lv' := [(5, .int (v5_4 + (1 : Int32))), (0, .ref (Z.2.1 0)), (1, .int v1), (2, .int v2), (3, .int v3_8), (4, .int v4_9)]) e_X11_chains_85 (j := 5) rfl (ii_1 v5_4) (by decide) rfl ?_
        refine kk_goto e_X11_chains_88 ?_
        exact kk_sub [1, 2, 3, 4, 5, 0] rfl (hrec_6 v3_8 v4_9 (v5_4 + (1 : Int32)) σ_10 h)
      · intro J_11 hJ_11 h
        refine kk_if_ne e_X11_chains_34 (fun c_17 => ?_) (fun c_17 => ?_)
        · replace h := h.1 c_17
          exact kk_sub [0, 1, 2, 3, 4, 5] rfl (hJ_11 v3_2 v4_3 σ_5 h)
        · replace h := h.2 c_17
          refine kk_aload_n 0 rfl e_X11_chains_37 ?_
          refine kk_getr e_X11_chains_38 fl_X11_31 rfl rfl ?_
          refine kk_iload 5 rfl e_X11_chains_41 ?_
          refine kk_iald e_X11_chains_43 rfl h.1 ?_
          replace h := h.2
          refine kk_iload_n 1 rfl e_X11_chains_44 ?_
          refine kk_jW0 (P := KK Z sh_M RX11 cX11_chains 6 (some .int) (kk_R 8) (kk_Qi Z sh_M Q) 62 [(0, .ref (Z.2.1 0)), (1, .int v1), (2, .int v2), (3, .int v3_2), (4, .int v4_3), (5, .int v5_4)] [] σ_5) h ?_ ?_
          · intro h
            refine kk_iload_n 3 rfl e_X11_chains_62 ?_
            refine kk_aload_n 0 rfl e_X11_chains_63 ?_
            refine kk_aload_n 0 rfl e_X11_chains_64 ?_
            refine kk_getr e_X11_chains_65 fl_X11_31 rfl rfl ?_
            refine kk_aload_n 0 rfl e_X11_chains_68 ?_
            refine kk_getr e_X11_chains_69 fl_X11_24 rfl rfl ?_
            refine kk_iload 5 rfl e_X11_chains_72 ?_
            refine kk_iald e_X11_chains_74 rfl h.1 ?_
            replace h := h.2
            refine kk_iload_n 1 rfl e_X11_chains_75 ?_
            refine kk_iload_n 2 rfl e_X11_chains_76 ?_
            refine kk_callVi (As := [.ref (Z.2.1 3), .int (kk_rd σ_5 1 v5_4), .int v1, .int v2]) (rest := [.int v3_2]) e_X11_chains_77 ml_X11_152 ⟨_, _, _, _, rfl, rfl⟩ rfl (kk_fitR (by decide) (by decide)) (Nat.le_of_ble_eq_true rfl) rfl (s_X11_chainIn Z 3 20 (kk_rd σ_5 1 v5_4) v1 v2 σ_5 _ rfl h) (fun r_13 σ_14 h => ?_)
            refine kk_ior e_X11_chains_80 ?_
            refine kk_istore_n (lv' := [(3, .int (v3_2 ||| r_13)), (0, .ref (Z.2.1 0)), (1, .int v1), (2, .int v2), (4, .int v4_3), (5, .int v5_4)]) e_X11_chains_81 rfl (by decide) rfl ?_
            refine kk_iinc (lv' := [(4, .int (v4_3 + (1 : Int32))), (3, .int (v3_2 ||| r_13)), (0, .ref (Z.2.1 0)), (1, .int v1), (2, .int v2), (5, .int v5_4)]) e_X11_chains_82 (j := 4) rfl (ii_1 v4_3) (by decide) rfl ?_
            exact kk_sub [2, 3, 4, 1, 0, 5] rfl (hJ_11 (v3_2 ||| r_13) (v4_3 + (1 : Int32)) σ_14 h)
          · intro J_12 hJ_12 h
            refine kk_icmp_eq e_X11_chains_45 (fun c_16 => ?_) (fun c_16 => ?_)
            · replace h := h.1 c_16
              exact kk_sub [0, 1, 2, 3, 4, 5] rfl (hJ_12 h)
            · replace h := h.2 c_16
              refine kk_aload_n 0 rfl e_X11_chains_48 ?_
              refine kk_getr e_X11_chains_49 fl_X11_31 rfl rfl ?_
              refine kk_iload 5 rfl e_X11_chains_52 ?_
              refine kk_iald e_X11_chains_54 rfl h.1 ?_
              replace h := h.2
              refine kk_iload_n 2 rfl e_X11_chains_55 ?_
              refine kk_icmp_eq e_X11_chains_56 (fun c_15 => ?_) (fun c_15 => ?_)
              · replace h := h.1 c_15
                exact kk_sub [0, 1, 2, 3, 4, 5] rfl (hJ_12 h)
              · replace h := h.2 c_15
                refine kk_goto e_X11_chains_59 ?_
                exact kk_sub [0, 1, 2, 3, 4, 5] rfl (hJ_11 v3_2 v4_3 σ_5 h)
  · replace h := h.2 c_19
    refine kk_iconst ic_m1 e_X11_chains_9 ?_
    exact kk_iret e_X11_chains_10 h
theorem e_X11_lineWith_0 : kk_d cX11_lineWith 0 (.iconst 0) 1 1 := ⟨by decide +kernel, rfl⟩
theorem e_X11_lineWith_1 : kk_d cX11_lineWith 1 (.istore_n 3) 1 2 := ⟨by decide +kernel, rfl⟩
theorem e_X11_lineWith_2 : kk_d cX11_lineWith 2 (.iload_n 3) 1 3 := ⟨by decide +kernel, rfl⟩
theorem e_X11_lineWith_3 : kk_d cX11_lineWith 3 (.aload_n 0) 1 4 := ⟨by decide +kernel, rfl⟩
theorem e_X11_lineWith_4 : kk_d cX11_lineWith 4 (.getfield 96) 3 7 := ⟨by decide +kernel, rfl⟩
theorem e_X11_lineWith_7 : kk_dj cX11_lineWith 7 (.if_icmp .ge 30) 3 (30) 10 37 := ⟨by decide +kernel, rfl, by decide⟩
theorem e_X11_lineWith_37 : kk_d cX11_lineWith 37 (.iconst (-1)) 1 38 := ⟨by decide +kernel, rfl⟩
theorem e_X11_lineWith_38 : kk_d cX11_lineWith 38 .ireturn 1 39 := ⟨by decide +kernel, rfl⟩
theorem e_X11_lineWith_10 : kk_d cX11_lineWith 10 (.aload_n 0) 1 11 := ⟨by decide +kernel, rfl⟩
theorem e_X11_lineWith_11 : kk_d cX11_lineWith 11 (.iload_n 3) 1 12 := ⟨by decide +kernel, rfl⟩
theorem e_X11_lineWith_12 : kk_d cX11_lineWith 12 (.iload_n 1) 1 13 := ⟨by decide +kernel, rfl⟩
theorem e_X11_lineWith_13 : kk_d cX11_lineWith 13 (.invokevirtual 114) 3 16 := ⟨by decide +kernel, rfl⟩
theorem e_X11_lineWith_16 : kk_dj cX11_lineWith 16 (.ifCond .eq 15) 3 (15) 19 31 := ⟨by decide +kernel, rfl, by decide⟩
theorem e_X11_lineWith_31 : kk_d cX11_lineWith 31 (.iinc 3 1) 3 34 := ⟨by decide +kernel, rfl⟩
theorem e_X11_lineWith_34 : kk_dj cX11_lineWith 34 (.goto (-32)) 3 (-32) 37 2 := ⟨by decide +kernel, rfl, by decide⟩
theorem e_X11_lineWith_19 : kk_d cX11_lineWith 19 (.aload_n 0) 1 20 := ⟨by decide +kernel, rfl⟩
theorem e_X11_lineWith_20 : kk_d cX11_lineWith 20 (.getfield 31) 3 23 := ⟨by decide +kernel, rfl⟩
theorem e_X11_lineWith_23 : kk_d cX11_lineWith 23 (.iload_n 3) 1 24 := ⟨by decide +kernel, rfl⟩
theorem e_X11_lineWith_24 : kk_d cX11_lineWith 24 .iaload 1 25 := ⟨by decide +kernel, rfl⟩
theorem e_X11_lineWith_25 : kk_d cX11_lineWith 25 (.iload_n 2) 1 26 := ⟨by decide +kernel, rfl⟩
theorem e_X11_lineWith_26 : kk_dj cX11_lineWith 26 (.if_icmp .ne 5) 3 (5) 29 31 := ⟨by decide +kernel, rfl, by decide⟩
theorem e_X11_lineWith_29 : kk_d cX11_lineWith 29 (.iload_n 3) 1 30 := ⟨by decide +kernel, rfl⟩
theorem e_X11_lineWith_30 : kk_d cX11_lineWith 30 .ireturn 1 31 := ⟨by decide +kernel, rfl⟩
set_option maxRecDepth 4000 in
theorem s_X11_lineWith (Z : kk_Z) (v1 : Int32) (v2 : Int32) (σ : kk_St) (Q : Int32 → Prop) (h : f_X11_lineWith v1 v2 σ Q) : kk_M Z sh_M yX11_lineWith cX11_lineWith 4 (some .int) (kk_R 3) [.ref (Z.2.1 0), .int v1, .int v2] σ (kk_Qi Z sh_M (fun r σ' => σ' = σ ∧ Q r)) := by
  unfold f_X11_lineWith at h
  refine kk_met (own := RX11) (by decide) rfl (Nat.le_of_ble_eq_true rfl) rfl ?_
  refine kk_iconst ic_0 e_X11_lineWith_0 ?_
  refine kk_istore_n (lv' := [(3, .int (0 : Int32)), (0, .ref (Z.2.1 0)), (1, .int v1), (2, .int v2)]) e_X11_lineWith_1 rfl (by decide) rfl ?_
  refine kk_sub [1, 2, 3, 0] rfl ?_
  refine kk_lpW1 (P := fun (v3_1 : Int32) => KK Z sh_M RX11 cX11_lineWith 4 (some .int) (kk_R 3) (kk_Qi Z sh_M (fun r σ' => σ' = σ ∧ Q r)) 2 [(0, .ref (Z.2.1 0)), (1, .int v1), (2, .int v2), (3, .int v3_1)] [] σ) ?_ h
  intro rec_2 hrec_2 v3_1 h
  refine kk_iload_n 3 rfl e_X11_lineWith_2 ?_
  refine kk_aload_n 0 rfl e_X11_lineWith_3 ?_
  refine kk_geti e_X11_lineWith_4 fl_X11_96 rfl rfl ?_
  refine kk_icmp_ge e_X11_lineWith_7 (fun c_7 => ?_) (fun c_7 => ?_)
  · replace h := h.1 c_7
    refine kk_iconst ic_m1 e_X11_lineWith_37 ?_
    exact kk_iret e_X11_lineWith_38 ⟨rfl, h⟩
  · replace h := h.2 c_7
    refine kk_aload_n 0 rfl e_X11_lineWith_10 ?_
    refine kk_iload_n 3 rfl e_X11_lineWith_11 ?_
    refine kk_iload_n 1 rfl e_X11_lineWith_12 ?_
    refine kk_callVip (As := [.int v3_1, .int v1]) (rest := []) e_X11_lineWith_13 ml_X11_114 ⟨_, _, _, _, rfl, rfl⟩ rfl (kk_fitR (by decide) (by decide)) (Nat.le_of_ble_eq_true rfl) rfl (s_X11_isAt Z v3_1 v1 σ _ h) (fun r_3 h => ?_)
    refine kk_jW0 (P := KK Z sh_M RX11 cX11_lineWith 4 (some .int) (kk_R 3) (kk_Qi Z sh_M (fun r σ' => σ' = σ ∧ Q r)) 31 [(0, .ref (Z.2.1 0)), (1, .int v1), (2, .int v2), (3, .int v3_1)] [] σ) h ?_ ?_
    · intro h
      refine kk_iinc (lv' := [(3, .int (v3_1 + (1 : Int32))), (0, .ref (Z.2.1 0)), (1, .int v1), (2, .int v2)]) e_X11_lineWith_31 (j := 3) rfl (ii_1 v3_1) (by decide) rfl ?_
      refine kk_goto e_X11_lineWith_34 ?_
      exact kk_sub [1, 2, 3, 0] rfl (hrec_2 (v3_1 + (1 : Int32)) h)
    · intro J_4 hJ_4 h
      refine kk_if_eq e_X11_lineWith_16 (fun c_6 => ?_) (fun c_6 => ?_)
      · replace h := h.1 c_6
        exact kk_sub [0, 1, 2, 3] rfl (hJ_4 h)
      · replace h := h.2 c_6
        refine kk_aload_n 0 rfl e_X11_lineWith_19 ?_
        refine kk_getr e_X11_lineWith_20 fl_X11_31 rfl rfl ?_
        refine kk_iload_n 3 rfl e_X11_lineWith_23 ?_
        refine kk_iald e_X11_lineWith_24 rfl h.1 ?_
        replace h := h.2
        refine kk_iload_n 2 rfl e_X11_lineWith_25 ?_
        refine kk_icmp_ne e_X11_lineWith_26 (fun c_5 => ?_) (fun c_5 => ?_)
        · replace h := h.1 c_5
          exact kk_sub [0, 1, 2, 3] rfl (hJ_4 h)
        · replace h := h.2 c_5
          refine kk_iload_n 3 rfl e_X11_lineWith_29 ?_
          exact kk_iret e_X11_lineWith_30 ⟨rfl, h⟩
theorem e_X11_clash_0 : kk_d cX11_clash 0 (.aload_n 0) 1 1 := ⟨by decide +kernel, rfl⟩
theorem e_X11_clash_1 : kk_d cX11_clash 1 (.iload_n 1) 1 2 := ⟨by decide +kernel, rfl⟩
theorem e_X11_clash_2 : kk_d cX11_clash 2 (.invokevirtual 143) 3 5 := ⟨by decide +kernel, rfl⟩
theorem e_X11_clash_5 : kk_dj cX11_clash 5 (.ifCond .eq 11) 3 (11) 8 16 := ⟨by decide +kernel, rfl, by decide⟩
theorem e_X11_clash_16 : kk_d cX11_clash 16 (.iconst (-1)) 1 17 := ⟨by decide +kernel, rfl⟩
theorem e_X11_clash_17 : kk_d cX11_clash 17 .ireturn 1 18 := ⟨by decide +kernel, rfl⟩
theorem e_X11_clash_8 : kk_d cX11_clash 8 (.aload_n 0) 1 9 := ⟨by decide +kernel, rfl⟩
theorem e_X11_clash_9 : kk_d cX11_clash 9 (.iload_n 2) 1 10 := ⟨by decide +kernel, rfl⟩
theorem e_X11_clash_10 : kk_d cX11_clash 10 (.invokevirtual 131) 3 13 := ⟨by decide +kernel, rfl⟩
theorem e_X11_clash_13 : kk_dj cX11_clash 13 (.ifCond .ne 5) 3 (5) 16 18 := ⟨by decide +kernel, rfl, by decide⟩
theorem e_X11_clash_18 : kk_d cX11_clash 18 (.aload_n 0) 1 19 := ⟨by decide +kernel, rfl⟩
theorem e_X11_clash_19 : kk_d cX11_clash 19 (.getfield 31) 3 22 := ⟨by decide +kernel, rfl⟩
theorem e_X11_clash_22 : kk_d cX11_clash 22 (.iload_n 1) 1 23 := ⟨by decide +kernel, rfl⟩
theorem e_X11_clash_23 : kk_d cX11_clash 23 .iaload 1 24 := ⟨by decide +kernel, rfl⟩
theorem e_X11_clash_24 : kk_d cX11_clash 24 (.iload_n 2) 1 25 := ⟨by decide +kernel, rfl⟩
theorem e_X11_clash_25 : kk_dj cX11_clash 25 (.if_icmp .ne 5) 3 (5) 28 30 := ⟨by decide +kernel, rfl, by decide⟩
theorem e_X11_clash_30 : kk_d cX11_clash 30 (.aload_n 0) 1 31 := ⟨by decide +kernel, rfl⟩
theorem e_X11_clash_31 : kk_d cX11_clash 31 (.aload_n 0) 1 32 := ⟨by decide +kernel, rfl⟩
theorem e_X11_clash_32 : kk_d cX11_clash 32 (.getfield 24) 3 35 := ⟨by decide +kernel, rfl⟩
theorem e_X11_clash_35 : kk_d cX11_clash 35 (.iload_n 1) 1 36 := ⟨by decide +kernel, rfl⟩
theorem e_X11_clash_36 : kk_d cX11_clash 36 .iaload 1 37 := ⟨by decide +kernel, rfl⟩
theorem e_X11_clash_37 : kk_d cX11_clash 37 (.iload_n 2) 1 38 := ⟨by decide +kernel, rfl⟩
theorem e_X11_clash_38 : kk_d cX11_clash 38 (.invokevirtual 137) 3 41 := ⟨by decide +kernel, rfl⟩
theorem e_X11_clash_41 : kk_d cX11_clash 41 (.istore_n 3) 1 42 := ⟨by decide +kernel, rfl⟩
theorem e_X11_clash_42 : kk_d cX11_clash 42 (.iload_n 3) 1 43 := ⟨by decide +kernel, rfl⟩
theorem e_X11_clash_43 : kk_d cX11_clash 43 (.iconst (-1)) 1 44 := ⟨by decide +kernel, rfl⟩
theorem e_X11_clash_44 : kk_dj cX11_clash 44 (.if_icmp .eq 5) 3 (5) 47 49 := ⟨by decide +kernel, rfl, by decide⟩
theorem e_X11_clash_49 : kk_d cX11_clash 49 (.aload_n 0) 1 50 := ⟨by decide +kernel, rfl⟩
theorem e_X11_clash_50 : kk_d cX11_clash 50 (.aload_n 0) 1 51 := ⟨by decide +kernel, rfl⟩
theorem e_X11_clash_51 : kk_d cX11_clash 51 (.getfield 28) 3 54 := ⟨by decide +kernel, rfl⟩
theorem e_X11_clash_54 : kk_d cX11_clash 54 (.iload_n 1) 1 55 := ⟨by decide +kernel, rfl⟩
theorem e_X11_clash_55 : kk_d cX11_clash 55 .iaload 1 56 := ⟨by decide +kernel, rfl⟩
theorem e_X11_clash_56 : kk_d cX11_clash 56 (.iload_n 2) 1 57 := ⟨by decide +kernel, rfl⟩
theorem e_X11_clash_57 : kk_d cX11_clash 57 (.invokevirtual 137) 3 60 := ⟨by decide +kernel, rfl⟩
theorem e_X11_clash_60 : kk_d cX11_clash 60 (.istore 4) 2 62 := ⟨by decide +kernel, rfl⟩
theorem e_X11_clash_62 : kk_d cX11_clash 62 (.iload 4) 2 64 := ⟨by decide +kernel, rfl⟩
theorem e_X11_clash_64 : kk_d cX11_clash 64 (.iconst (-1)) 1 65 := ⟨by decide +kernel, rfl⟩
theorem e_X11_clash_65 : kk_dj cX11_clash 65 (.if_icmp .eq 8) 3 (8) 68 73 := ⟨by decide +kernel, rfl, by decide⟩
theorem e_X11_clash_75 : kk_d cX11_clash 75 .ireturn 1 76 := ⟨by decide +kernel, rfl⟩
theorem e_X11_clash_73 : kk_d cX11_clash 73 (.bipush (-2)) 2 75 := ⟨by decide +kernel, rfl⟩
theorem e_X11_clash_68 : kk_d cX11_clash 68 (.iload 4) 2 70 := ⟨by decide +kernel, rfl⟩
theorem e_X11_clash_70 : kk_dj cX11_clash 70 (.goto 5) 3 (5) 73 75 := ⟨by decide +kernel, rfl, by decide⟩
theorem e_X11_clash_47 : kk_d cX11_clash 47 (.iload_n 3) 1 48 := ⟨by decide +kernel, rfl⟩
theorem e_X11_clash_48 : kk_d cX11_clash 48 .ireturn 1 49 := ⟨by decide +kernel, rfl⟩
theorem e_X11_clash_28 : kk_d cX11_clash 28 (.iload_n 1) 1 29 := ⟨by decide +kernel, rfl⟩
theorem e_X11_clash_29 : kk_d cX11_clash 29 .ireturn 1 30 := ⟨by decide +kernel, rfl⟩
set_option maxRecDepth 4000 in
theorem s_X11_clash (Z : kk_Z) (v1 : Int32) (v2 : Int32) (σ : kk_St) (Q : Int32 → Prop) (h : f_X11_clash v1 v2 σ Q) : kk_M Z sh_M yX11_clash cX11_clash 5 (some .int) (kk_R 7) [.ref (Z.2.1 0), .int v1, .int v2] σ (kk_Qi Z sh_M (fun r σ' => σ' = σ ∧ Q r)) := by
  unfold f_X11_clash at h
  refine kk_met (own := RX11) (by decide) rfl (Nat.le_of_ble_eq_true rfl) rfl ?_
  refine kk_aload_n 0 rfl e_X11_clash_0 ?_
  refine kk_iload_n 1 rfl e_X11_clash_1 ?_
  refine kk_callVip (As := [.int v1]) (rest := []) e_X11_clash_2 ml_X11_143 ⟨_, _, _, _, rfl, rfl⟩ rfl (kk_fitR (by decide) (by decide)) (Nat.le_of_ble_eq_true rfl) rfl (s_X11_isLine Z v1 σ _ h) (fun r_1 h => ?_)
  refine kk_jW0 (P := KK Z sh_M RX11 cX11_clash 5 (some .int) (kk_R 7) (kk_Qi Z sh_M (fun r σ' => σ' = σ ∧ Q r)) 16 [] [] σ) h ?_ ?_
  · intro h
    refine kk_iconst ic_m1 e_X11_clash_16 ?_
    exact kk_iret e_X11_clash_17 ⟨rfl, h⟩
  · intro J_2 hJ_2 h
    refine kk_if_eq e_X11_clash_5 (fun c_12 => ?_) (fun c_12 => ?_)
    · replace h := h.1 c_12
      exact kk_sub [] rfl (hJ_2 h)
    · replace h := h.2 c_12
      refine kk_aload_n 0 rfl e_X11_clash_8 ?_
      refine kk_iload_n 2 rfl e_X11_clash_9 ?_
      refine kk_callVip (As := [.int v2]) (rest := []) e_X11_clash_10 ml_X11_131 ⟨_, _, _, _, rfl, rfl⟩ rfl (kk_fitR (by decide) (by decide)) (Nat.le_of_ble_eq_true rfl) rfl (s_X11_isColour Z v2 σ _ h) (fun r_3 h => ?_)
      refine kk_if_ne e_X11_clash_13 (fun c_11 => ?_) (fun c_11 => ?_)
      · replace h := h.1 c_11
        refine kk_aload_n 0 rfl e_X11_clash_18 ?_
        refine kk_getr e_X11_clash_19 fl_X11_31 rfl rfl ?_
        refine kk_iload_n 1 rfl e_X11_clash_22 ?_
        refine kk_iald e_X11_clash_23 rfl h.1 ?_
        replace h := h.2
        refine kk_iload_n 2 rfl e_X11_clash_24 ?_
        refine kk_icmp_ne e_X11_clash_25 (fun c_10 => ?_) (fun c_10 => ?_)
        · replace h := h.1 c_10
          refine kk_aload_n 0 rfl e_X11_clash_30 ?_
          refine kk_aload_n 0 rfl e_X11_clash_31 ?_
          refine kk_getr e_X11_clash_32 fl_X11_24 rfl rfl ?_
          refine kk_iload_n 1 rfl e_X11_clash_35 ?_
          refine kk_iald e_X11_clash_36 rfl h.1 ?_
          replace h := h.2
          refine kk_iload_n 2 rfl e_X11_clash_37 ?_
          refine kk_callVip (As := [.int (kk_rd σ 1 v1), .int v2]) (rest := []) e_X11_clash_38 ml_X11_137 ⟨_, _, _, _, rfl, rfl⟩ rfl (kk_fitR (by decide) (by decide)) (Nat.le_of_ble_eq_true rfl) rfl (s_X11_lineWith Z (kk_rd σ 1 v1) v2 σ _ h) (fun r_4 h => ?_)
          refine kk_istore_n (lv' := [(3, .int r_4), (0, .ref (Z.2.1 0)), (1, .int v1), (2, .int v2)]) e_X11_clash_41 rfl (by decide) rfl ?_
          refine kk_iload_n 0 rfl e_X11_clash_42 ?_
          refine kk_iconst ic_m1 e_X11_clash_43 ?_
          refine kk_icmp_eq e_X11_clash_44 (fun c_9 => ?_) (fun c_9 => ?_)
          · replace h := h.1 c_9
            refine kk_aload_n 1 rfl e_X11_clash_49 ?_
            refine kk_aload_n 1 rfl e_X11_clash_50 ?_
            refine kk_getr e_X11_clash_51 fl_X11_28 rfl rfl ?_
            refine kk_iload_n 2 rfl e_X11_clash_54 ?_
            refine kk_iald e_X11_clash_55 rfl h.1 ?_
            replace h := h.2
            refine kk_iload_n 3 rfl e_X11_clash_56 ?_
            refine kk_callVip (As := [.int (kk_rd σ 2 v1), .int v2]) (rest := []) e_X11_clash_57 ml_X11_137 ⟨_, _, _, _, rfl, rfl⟩ rfl (kk_fitR (by decide) (by decide)) (Nat.le_of_ble_eq_true rfl) rfl (s_X11_lineWith Z (kk_rd σ 2 v1) v2 σ _ h) (fun r_5 h => ?_)
            refine kk_istore (lv' := [(4, .int r_5), (3, .int r_4), (0, .ref (Z.2.1 0)), (1, .int v1), (2, .int v2)]) e_X11_clash_60 (by decide) rfl ?_
            refine kk_iload 0 rfl e_X11_clash_62 ?_
            refine kk_iconst ic_m1 e_X11_clash_64 ?_
            refine kk_jW1 (P := fun (t_6 : Int32) => KK Z sh_M RX11 cX11_clash 5 (some .int) (kk_R 7) (kk_Qi Z sh_M (fun r σ' => σ' = σ ∧ Q r)) 75 [] [.int t_6] σ) h ?_ ?_
            · intro t_6 h
              exact kk_iret e_X11_clash_75 ⟨rfl, h⟩
            · intro J_7 hJ_7 h
              refine kk_icmp_eq e_X11_clash_65 (fun c_8 => ?_) (fun c_8 => ?_)
              · replace h := h.1 c_8
                refine kk_bipush bp_m2 e_X11_clash_73 ?_
                exact kk_sub [] rfl (hJ_7 (-2 : Int32) h)
              · replace h := h.2 c_8
                refine kk_iload 0 rfl e_X11_clash_68 ?_
                refine kk_goto e_X11_clash_70 ?_
                exact kk_sub [] rfl (hJ_7 r_5 h)
          · replace h := h.2 c_9
            refine kk_iload_n 0 rfl e_X11_clash_47 ?_
            exact kk_iret e_X11_clash_48 ⟨rfl, h⟩
        · replace h := h.2 c_10
          refine kk_iload_n 1 rfl e_X11_clash_28 ?_
          exact kk_iret e_X11_clash_29 ⟨rfl, h⟩
      · replace h := h.2 c_11
        exact kk_sub [] rfl (hJ_2 h)
theorem e_X11_codeOf_0 : kk_d cX11_codeOf 0 (.iconst 0) 1 1 := ⟨by decide +kernel, rfl⟩
theorem e_X11_codeOf_1 : kk_d cX11_codeOf 1 (.istore_n 3) 1 2 := ⟨by decide +kernel, rfl⟩
theorem e_X11_codeOf_2 : kk_d cX11_codeOf 2 (.aload_n 0) 1 3 := ⟨by decide +kernel, rfl⟩
theorem e_X11_codeOf_3 : kk_d cX11_codeOf 3 (.getfield 96) 3 6 := ⟨by decide +kernel, rfl⟩
theorem e_X11_codeOf_6 : kk_d cX11_codeOf 6 (.iconst 1) 1 7 := ⟨by decide +kernel, rfl⟩
theorem e_X11_codeOf_7 : kk_d cX11_codeOf 7 .isub 1 8 := ⟨by decide +kernel, rfl⟩
theorem e_X11_codeOf_8 : kk_d cX11_codeOf 8 (.istore 4) 2 10 := ⟨by decide +kernel, rfl⟩
theorem e_X11_codeOf_10 : kk_d cX11_codeOf 10 (.iload 4) 2 12 := ⟨by decide +kernel, rfl⟩
theorem e_X11_codeOf_12 : kk_dj cX11_codeOf 12 (.ifCond .lt 18) 3 (18) 15 30 := ⟨by decide +kernel, rfl, by decide⟩
theorem e_X11_codeOf_30 : kk_d cX11_codeOf 30 (.iload_n 3) 1 31 := ⟨by decide +kernel, rfl⟩
theorem e_X11_codeOf_31 : kk_d cX11_codeOf 31 .ireturn 1 32 := ⟨by decide +kernel, rfl⟩
theorem e_X11_codeOf_15 : kk_d cX11_codeOf 15 (.iload_n 2) 1 16 := ⟨by decide +kernel, rfl⟩
theorem e_X11_codeOf_16 : kk_d cX11_codeOf 16 (.iload_n 3) 1 17 := ⟨by decide +kernel, rfl⟩
theorem e_X11_codeOf_17 : kk_d cX11_codeOf 17 .imul 1 18 := ⟨by decide +kernel, rfl⟩
theorem e_X11_codeOf_18 : kk_d cX11_codeOf 18 (.aload_n 1) 1 19 := ⟨by decide +kernel, rfl⟩
theorem e_X11_codeOf_19 : kk_d cX11_codeOf 19 (.iload 4) 2 21 := ⟨by decide +kernel, rfl⟩
theorem e_X11_codeOf_21 : kk_d cX11_codeOf 21 .iaload 1 22 := ⟨by decide +kernel, rfl⟩
theorem e_X11_codeOf_22 : kk_d cX11_codeOf 22 .iadd 1 23 := ⟨by decide +kernel, rfl⟩
theorem e_X11_codeOf_23 : kk_d cX11_codeOf 23 (.istore_n 3) 1 24 := ⟨by decide +kernel, rfl⟩
theorem e_X11_codeOf_24 : kk_d cX11_codeOf 24 (.iinc 4 (-1)) 3 27 := ⟨by decide +kernel, rfl⟩
theorem e_X11_codeOf_27 : kk_dj cX11_codeOf 27 (.goto (-17)) 3 (-17) 30 10 := ⟨by decide +kernel, rfl, by decide⟩
set_option maxRecDepth 4000 in
theorem s_X11_codeOf (Z : kk_Z) (a1 : Nat) (n1 : Nat) (v2 : Int32) (σ : kk_St) (Q : Int32 → Prop) (ha1 : sh_M[a1]? = some (.inl (false, n1))) (h : f_X11_codeOf a1 n1 v2 σ Q) : kk_M Z sh_M yX11_codeOf cX11_codeOf 5 (some .int) (kk_R 2) [.ref (Z.2.1 0), .ref (Z.2.1 a1), .int v2] σ (kk_Qi Z sh_M (fun r σ' => σ' = σ ∧ Q r)) := by
  unfold f_X11_codeOf at h
  refine kk_met (own := RX11) (by decide) rfl (Nat.le_of_ble_eq_true rfl) rfl ?_
  refine kk_iconst ic_0 e_X11_codeOf_0 ?_
  refine kk_istore_n (lv' := [(3, .int (0 : Int32)), (0, .ref (Z.2.1 0)), (1, .ref (Z.2.1 a1)), (2, .int v2)]) e_X11_codeOf_1 rfl (by decide) rfl ?_
  refine kk_aload_n 1 rfl e_X11_codeOf_2 ?_
  refine kk_geti e_X11_codeOf_3 fl_X11_96 rfl rfl ?_
  refine kk_iconst ic_1 e_X11_codeOf_6 ?_
  refine kk_isub e_X11_codeOf_7 ?_
  refine kk_istore (lv' := [(4, .int ((σ.1 0 2) - (1 : Int32))), (3, .int (0 : Int32)), (0, .ref (Z.2.1 0)), (1, .ref (Z.2.1 a1)), (2, .int v2)]) e_X11_codeOf_8 (by decide) rfl ?_
  refine kk_sub [3, 4, 1, 0] rfl ?_
  refine kk_lpW2 (P := fun (v3_1 : Int32) (v4_2 : Int32) => KK Z sh_M RX11 cX11_codeOf 5 (some .int) (kk_R 2) (kk_Qi Z sh_M (fun r σ' => σ' = σ ∧ Q r)) 10 [(1, .ref (Z.2.1 a1)), (2, .int v2), (3, .int v3_1), (4, .int v4_2)] [] σ) ?_ h
  intro rec_3 hrec_3 v3_1 v4_2 h
  refine kk_iload 3 rfl e_X11_codeOf_10 ?_
  refine kk_if_lt e_X11_codeOf_12 (fun c_5 => ?_) (fun c_5 => ?_)
  · replace h := h.1 c_5
    refine kk_iload_n 2 rfl e_X11_codeOf_30 ?_
    exact kk_iret e_X11_codeOf_31 ⟨rfl, h⟩
  · replace h := h.2 c_5
    refine kk_iload_n 1 rfl e_X11_codeOf_15 ?_
    refine kk_iload_n 2 rfl e_X11_codeOf_16 ?_
    refine kk_imul e_X11_codeOf_17 ?_
    refine kk_aload_n 0 rfl e_X11_codeOf_18 ?_
    refine kk_iload 3 rfl e_X11_codeOf_19 ?_
    refine kk_iald e_X11_codeOf_21 ha1 h.1 ?_
    replace h := h.2
    refine kk_iadd e_X11_codeOf_22 ?_
    refine kk_topi (fun v3_4 ev3_4 => ?_)
    replace h := h v3_4 ev3_4
    refine kk_istore_n (lv' := [(3, .int v3_4), (1, .ref (Z.2.1 a1)), (2, .int v2), (4, .int v4_2)]) e_X11_codeOf_23 rfl (by decide) rfl ?_
    refine kk_iinc (lv' := [(4, .int (v4_2 + (-1 : Int32))), (3, .int v3_4), (1, .ref (Z.2.1 a1)), (2, .int v2)]) e_X11_codeOf_24 (j := 3) rfl (ii_m1 v4_2) (by decide) rfl ?_
    refine kk_goto e_X11_codeOf_27 ?_
    exact kk_sub [2, 3, 1, 0] rfl (hrec_3 v3_4 (v4_2 + (-1 : Int32)) h)
theorem e_X11_codes_0 : kk_d cX11_codes 0 (.iconst 1) 1 1 := ⟨by decide +kernel, rfl⟩
theorem e_X11_codes_1 : kk_d cX11_codes 1 (.istore_n 2) 1 2 := ⟨by decide +kernel, rfl⟩
theorem e_X11_codes_2 : kk_d cX11_codes 2 (.iconst 0) 1 3 := ⟨by decide +kernel, rfl⟩
theorem e_X11_codes_3 : kk_d cX11_codes 3 (.istore_n 3) 1 4 := ⟨by decide +kernel, rfl⟩
theorem e_X11_codes_4 : kk_d cX11_codes 4 (.iload_n 3) 1 5 := ⟨by decide +kernel, rfl⟩
theorem e_X11_codes_5 : kk_d cX11_codes 5 (.aload_n 0) 1 6 := ⟨by decide +kernel, rfl⟩
theorem e_X11_codes_6 : kk_d cX11_codes 6 (.getfield 96) 3 9 := ⟨by decide +kernel, rfl⟩
theorem e_X11_codes_9 : kk_dj cX11_codes 9 (.if_icmp .ge 13) 3 (13) 12 22 := ⟨by decide +kernel, rfl, by decide⟩
theorem e_X11_codes_22 : kk_d cX11_codes 22 (.iload_n 2) 1 23 := ⟨by decide +kernel, rfl⟩
theorem e_X11_codes_23 : kk_d cX11_codes 23 .ireturn 1 24 := ⟨by decide +kernel, rfl⟩
theorem e_X11_codes_12 : kk_d cX11_codes 12 (.iload_n 2) 1 13 := ⟨by decide +kernel, rfl⟩
theorem e_X11_codes_13 : kk_d cX11_codes 13 (.iload_n 1) 1 14 := ⟨by decide +kernel, rfl⟩
theorem e_X11_codes_14 : kk_d cX11_codes 14 .imul 1 15 := ⟨by decide +kernel, rfl⟩
theorem e_X11_codes_15 : kk_d cX11_codes 15 (.istore_n 2) 1 16 := ⟨by decide +kernel, rfl⟩
theorem e_X11_codes_16 : kk_d cX11_codes 16 (.iinc 3 1) 3 19 := ⟨by decide +kernel, rfl⟩
theorem e_X11_codes_19 : kk_dj cX11_codes 19 (.goto (-15)) 3 (-15) 22 4 := ⟨by decide +kernel, rfl, by decide⟩
set_option maxRecDepth 4000 in
theorem s_X11_codes (Z : kk_Z) (v1 : Int32) (σ : kk_St) (Q : Int32 → Prop) (h : f_X11_codes v1 σ Q) : kk_M Z sh_M yX11_codes cX11_codes 4 (some .int) (kk_R 2) [.ref (Z.2.1 0), .int v1] σ (kk_Qi Z sh_M (fun r σ' => σ' = σ ∧ Q r)) := by
  unfold f_X11_codes at h
  refine kk_met (own := RX11) (by decide) rfl (Nat.le_of_ble_eq_true rfl) rfl ?_
  refine kk_iconst ic_1 e_X11_codes_0 ?_
  refine kk_istore_n (lv' := [(2, .int (1 : Int32)), (0, .ref (Z.2.1 0)), (1, .int v1)]) e_X11_codes_1 rfl (by decide) rfl ?_
  refine kk_iconst ic_0 e_X11_codes_2 ?_
  refine kk_istore_n (lv' := [(3, .int (0 : Int32)), (2, .int (1 : Int32)), (0, .ref (Z.2.1 0)), (1, .int v1)]) e_X11_codes_3 rfl (by decide) rfl ?_
  refine kk_sub [2, 3, 1, 0] rfl ?_
  refine kk_lpW2 (P := fun (v2_1 : Int32) (v3_2 : Int32) => KK Z sh_M RX11 cX11_codes 4 (some .int) (kk_R 2) (kk_Qi Z sh_M (fun r σ' => σ' = σ ∧ Q r)) 4 [(0, .ref (Z.2.1 0)), (1, .int v1), (2, .int v2_1), (3, .int v3_2)] [] σ) ?_ h
  intro rec_3 hrec_3 v2_1 v3_2 h
  refine kk_iload_n 3 rfl e_X11_codes_4 ?_
  refine kk_aload_n 0 rfl e_X11_codes_5 ?_
  refine kk_geti e_X11_codes_6 fl_X11_96 rfl rfl ?_
  refine kk_icmp_ge e_X11_codes_9 (fun c_4 => ?_) (fun c_4 => ?_)
  · replace h := h.1 c_4
    refine kk_iload_n 2 rfl e_X11_codes_22 ?_
    exact kk_iret e_X11_codes_23 ⟨rfl, h⟩
  · replace h := h.2 c_4
    refine kk_iload_n 2 rfl e_X11_codes_12 ?_
    refine kk_iload_n 1 rfl e_X11_codes_13 ?_
    refine kk_imul e_X11_codes_14 ?_
    refine kk_istore_n (lv' := [(2, .int (v2_1 * v1)), (0, .ref (Z.2.1 0)), (1, .int v1), (3, .int v3_2)]) e_X11_codes_15 rfl (by decide) rfl ?_
    refine kk_iinc (lv' := [(3, .int (v3_2 + (1 : Int32))), (2, .int (v2_1 * v1)), (0, .ref (Z.2.1 0)), (1, .int v1)]) e_X11_codes_16 (j := 3) rfl (ii_1 v3_2) (by decide) rfl ?_
    refine kk_goto e_X11_codes_19 ?_
    exact kk_sub [2, 3, 1, 0] rfl (hrec_3 (v2_1 * v1) (v3_2 + (1 : Int32)) h)
theorem e_X11_isFreeAt_0 : kk_d cX11_isFreeAt 0 (.aload_n 0) 1 1 := ⟨by decide +kernel, rfl⟩
theorem e_X11_isFreeAt_1 : kk_d cX11_isFreeAt 1 (.iload_n 1) 1 2 := ⟨by decide +kernel, rfl⟩
theorem e_X11_isFreeAt_2 : kk_d cX11_isFreeAt 2 (.iload_n 2) 1 3 := ⟨by decide +kernel, rfl⟩
theorem e_X11_isFreeAt_3 : kk_d cX11_isFreeAt 3 (.invokevirtual 137) 3 6 := ⟨by decide +kernel, rfl⟩
theorem e_X11_isFreeAt_6 : kk_d cX11_isFreeAt 6 (.iconst (-1)) 1 7 := ⟨by decide +kernel, rfl⟩
theorem e_X11_isFreeAt_7 : kk_dj cX11_isFreeAt 7 (.if_icmp .ne 7) 3 (7) 10 14 := ⟨by decide +kernel, rfl, by decide⟩
theorem e_X11_isFreeAt_15 : kk_d cX11_isFreeAt 15 .ireturn 1 16 := ⟨by decide +kernel, rfl⟩
theorem e_X11_isFreeAt_14 : kk_d cX11_isFreeAt 14 (.iconst 0) 1 15 := ⟨by decide +kernel, rfl⟩
theorem e_X11_isFreeAt_10 : kk_d cX11_isFreeAt 10 (.iconst 1) 1 11 := ⟨by decide +kernel, rfl⟩
theorem e_X11_isFreeAt_11 : kk_dj cX11_isFreeAt 11 (.goto 4) 3 (4) 14 15 := ⟨by decide +kernel, rfl, by decide⟩
set_option maxRecDepth 4000 in
theorem s_X11_isFreeAt (Z : kk_Z) (v1 : Int32) (v2 : Int32) (σ : kk_St) (Q : Int32 → Prop) (h : f_X11_isFreeAt v1 v2 σ Q) : kk_M Z sh_M yX11_isFreeAt cX11_isFreeAt 3 (some .boolean) (kk_R 4) [.ref (Z.2.1 0), .int v1, .int v2] σ (kk_Qi Z sh_M (fun r σ' => σ' = σ ∧ Q r)) := by
  unfold f_X11_isFreeAt at h
  refine kk_met (own := RX11) (by decide) rfl (Nat.le_of_ble_eq_true rfl) rfl ?_
  refine kk_aload_n 0 rfl e_X11_isFreeAt_0 ?_
  refine kk_iload_n 1 rfl e_X11_isFreeAt_1 ?_
  refine kk_iload_n 2 rfl e_X11_isFreeAt_2 ?_
  refine kk_callVip (As := [.int v1, .int v2]) (rest := []) e_X11_isFreeAt_3 ml_X11_137 ⟨_, _, _, _, rfl, rfl⟩ rfl (kk_fitR (by decide) (by decide)) (Nat.le_of_ble_eq_true rfl) rfl (s_X11_lineWith Z v1 v2 σ _ h) (fun r_1 h => ?_)
  refine kk_iconst ic_m1 e_X11_isFreeAt_6 ?_
  refine kk_jW1 (P := fun (t_2 : Int32) => KK Z sh_M RX11 cX11_isFreeAt 3 (some .boolean) (kk_R 4) (kk_Qi Z sh_M (fun r σ' => σ' = σ ∧ Q r)) 15 [] [.int t_2] σ) h ?_ ?_
  · intro t_2 h
    exact kk_zret e_X11_isFreeAt_15 h.1 ⟨rfl, h.2⟩
  · intro J_3 hJ_3 h
    refine kk_icmp_ne e_X11_isFreeAt_7 (fun c_4 => ?_) (fun c_4 => ?_)
    · replace h := h.1 c_4
      refine kk_iconst ic_0 e_X11_isFreeAt_14 ?_
      exact kk_sub [] rfl (hJ_3 (0 : Int32) h)
    · replace h := h.2 c_4
      refine kk_iconst ic_1 e_X11_isFreeAt_10 ?_
      refine kk_goto e_X11_isFreeAt_11 ?_
      exact kk_sub [] rfl (hJ_3 (1 : Int32) h)
theorem e_X11_colour_0 : kk_d cX11_colour 0 (.aload_n 0) 1 1 := ⟨by decide +kernel, rfl⟩
theorem e_X11_colour_1 : kk_d cX11_colour 1 (.iload_n 1) 1 2 := ⟨by decide +kernel, rfl⟩
theorem e_X11_colour_2 : kk_d cX11_colour 2 (.invokevirtual 131) 3 5 := ⟨by decide +kernel, rfl⟩
theorem e_X11_colour_5 : kk_dj cX11_colour 5 (.ifCond .ne 5) 3 (5) 8 10 := ⟨by decide +kernel, rfl, by decide⟩
theorem e_X11_colour_10 : kk_d cX11_colour 10 (.iload_n 2) 1 11 := ⟨by decide +kernel, rfl⟩
theorem e_X11_colour_11 : decode cX11_colour 11 = .ok (.tableswitch 114 0 2 #[25, 35, 75], 25) := by decide +kernel
theorem e_X11_colour_36 : kk_d cX11_colour 36 (.aload_n 0) 1 37 := ⟨by decide +kernel, rfl⟩
theorem e_X11_colour_37 : kk_d cX11_colour 37 (.aload_n 0) 1 38 := ⟨by decide +kernel, rfl⟩
theorem e_X11_colour_38 : kk_d cX11_colour 38 (.invokevirtual 120) 3 41 := ⟨by decide +kernel, rfl⟩
theorem e_X11_colour_41 : kk_d cX11_colour 41 (.iload_n 1) 1 42 := ⟨by decide +kernel, rfl⟩
theorem e_X11_colour_42 : kk_d cX11_colour 42 (.invokevirtual 163) 3 45 := ⟨by decide +kernel, rfl⟩
theorem e_X11_colour_45 : kk_d cX11_colour 45 .ireturn 1 46 := ⟨by decide +kernel, rfl⟩
theorem e_X11_colour_46 : kk_d cX11_colour 46 (.iconst 0) 1 47 := ⟨by decide +kernel, rfl⟩
theorem e_X11_colour_47 : kk_d cX11_colour 47 (.istore_n 3) 1 48 := ⟨by decide +kernel, rfl⟩
theorem e_X11_colour_48 : kk_d cX11_colour 48 (.iconst 0) 1 49 := ⟨by decide +kernel, rfl⟩
theorem e_X11_colour_49 : kk_d cX11_colour 49 (.istore 4) 2 51 := ⟨by decide +kernel, rfl⟩
theorem e_X11_colour_51 : kk_d cX11_colour 51 (.iload 4) 2 53 := ⟨by decide +kernel, rfl⟩
theorem e_X11_colour_53 : kk_d cX11_colour 53 (.aload_n 0) 1 54 := ⟨by decide +kernel, rfl⟩
theorem e_X11_colour_54 : kk_d cX11_colour 54 (.getfield 96) 3 57 := ⟨by decide +kernel, rfl⟩
theorem e_X11_colour_57 : kk_dj cX11_colour 57 (.if_icmp .ge 27) 3 (27) 60 84 := ⟨by decide +kernel, rfl, by decide⟩
theorem e_X11_colour_84 : kk_d cX11_colour 84 (.iload_n 3) 1 85 := ⟨by decide +kernel, rfl⟩
theorem e_X11_colour_85 : kk_d cX11_colour 85 .ireturn 1 86 := ⟨by decide +kernel, rfl⟩
theorem e_X11_colour_60 : kk_d cX11_colour 60 (.aload_n 0) 1 61 := ⟨by decide +kernel, rfl⟩
theorem e_X11_colour_61 : kk_d cX11_colour 61 (.getfield 31) 3 64 := ⟨by decide +kernel, rfl⟩
theorem e_X11_colour_64 : kk_d cX11_colour 64 (.iload 4) 2 66 := ⟨by decide +kernel, rfl⟩
theorem e_X11_colour_66 : kk_d cX11_colour 66 .iaload 1 67 := ⟨by decide +kernel, rfl⟩
theorem e_X11_colour_67 : kk_d cX11_colour 67 (.iload_n 1) 1 68 := ⟨by decide +kernel, rfl⟩
theorem e_X11_colour_68 : kk_dj cX11_colour 68 (.if_icmp .ne 10) 3 (10) 71 78 := ⟨by decide +kernel, rfl, by decide⟩
theorem e_X11_colour_78 : kk_d cX11_colour 78 (.iinc 4 1) 3 81 := ⟨by decide +kernel, rfl⟩
theorem e_X11_colour_81 : kk_dj cX11_colour 81 (.goto (-30)) 3 (-30) 84 51 := ⟨by decide +kernel, rfl, by decide⟩
theorem e_X11_colour_71 : kk_d cX11_colour 71 (.iload_n 3) 1 72 := ⟨by decide +kernel, rfl⟩
theorem e_X11_colour_72 : kk_d cX11_colour 72 (.iconst 1) 1 73 := ⟨by decide +kernel, rfl⟩
theorem e_X11_colour_73 : kk_d cX11_colour 73 (.iload 4) 2 75 := ⟨by decide +kernel, rfl⟩
theorem e_X11_colour_75 : kk_d cX11_colour 75 .ishl 1 76 := ⟨by decide +kernel, rfl⟩
theorem e_X11_colour_76 : kk_d cX11_colour 76 .ior 1 77 := ⟨by decide +kernel, rfl⟩
theorem e_X11_colour_77 : kk_d cX11_colour 77 (.istore_n 3) 1 78 := ⟨by decide +kernel, rfl⟩
theorem e_X11_colour_86 : kk_d cX11_colour 86 (.iconst 0) 1 87 := ⟨by decide +kernel, rfl⟩
theorem e_X11_colour_87 : kk_d cX11_colour 87 (.istore_n 3) 1 88 := ⟨by decide +kernel, rfl⟩
theorem e_X11_colour_88 : kk_d cX11_colour 88 (.iconst 0) 1 89 := ⟨by decide +kernel, rfl⟩
theorem e_X11_colour_89 : kk_d cX11_colour 89 (.istore 4) 2 91 := ⟨by decide +kernel, rfl⟩
theorem e_X11_colour_91 : kk_d cX11_colour 91 (.iload 4) 2 93 := ⟨by decide +kernel, rfl⟩
theorem e_X11_colour_93 : kk_d cX11_colour 93 (.aload_n 0) 1 94 := ⟨by decide +kernel, rfl⟩
theorem e_X11_colour_94 : kk_d cX11_colour 94 (.getfield 21) 3 97 := ⟨by decide +kernel, rfl⟩
theorem e_X11_colour_97 : kk_dj cX11_colour 97 (.if_icmp .ge 26) 3 (26) 100 123 := ⟨by decide +kernel, rfl, by decide⟩
theorem e_X11_colour_123 : kk_d cX11_colour 123 (.iload_n 3) 1 124 := ⟨by decide +kernel, rfl⟩
theorem e_X11_colour_124 : kk_d cX11_colour 124 .ireturn 1 125 := ⟨by decide +kernel, rfl⟩
theorem e_X11_colour_100 : kk_d cX11_colour 100 (.aload_n 0) 1 101 := ⟨by decide +kernel, rfl⟩
theorem e_X11_colour_101 : kk_d cX11_colour 101 (.iload 4) 2 103 := ⟨by decide +kernel, rfl⟩
theorem e_X11_colour_103 : kk_d cX11_colour 103 (.iload_n 1) 1 104 := ⟨by decide +kernel, rfl⟩
theorem e_X11_colour_104 : kk_d cX11_colour 104 (.invokevirtual 140) 3 107 := ⟨by decide +kernel, rfl⟩
theorem e_X11_colour_107 : kk_dj cX11_colour 107 (.ifCond .eq 10) 3 (10) 110 117 := ⟨by decide +kernel, rfl, by decide⟩
theorem e_X11_colour_117 : kk_d cX11_colour 117 (.iinc 4 1) 3 120 := ⟨by decide +kernel, rfl⟩
theorem e_X11_colour_120 : kk_dj cX11_colour 120 (.goto (-29)) 3 (-29) 123 91 := ⟨by decide +kernel, rfl, by decide⟩
theorem e_X11_colour_110 : kk_d cX11_colour 110 (.iload_n 3) 1 111 := ⟨by decide +kernel, rfl⟩
theorem e_X11_colour_111 : kk_d cX11_colour 111 (.iconst 1) 1 112 := ⟨by decide +kernel, rfl⟩
theorem e_X11_colour_112 : kk_d cX11_colour 112 (.iload 4) 2 114 := ⟨by decide +kernel, rfl⟩
theorem e_X11_colour_114 : kk_d cX11_colour 114 .ishl 1 115 := ⟨by decide +kernel, rfl⟩
theorem e_X11_colour_115 : kk_d cX11_colour 115 .ior 1 116 := ⟨by decide +kernel, rfl⟩
theorem e_X11_colour_116 : kk_d cX11_colour 116 (.istore_n 3) 1 117 := ⟨by decide +kernel, rfl⟩
theorem e_X11_colour_125 : kk_d cX11_colour 125 (.iconst (-1)) 1 126 := ⟨by decide +kernel, rfl⟩
theorem e_X11_colour_126 : kk_d cX11_colour 126 .ireturn 1 127 := ⟨by decide +kernel, rfl⟩
theorem e_X11_colour_8 : kk_d cX11_colour 8 (.iconst (-1)) 1 9 := ⟨by decide +kernel, rfl⟩
theorem e_X11_colour_9 : kk_d cX11_colour 9 .ireturn 1 10 := ⟨by decide +kernel, rfl⟩
set_option maxRecDepth 4000 in
theorem s_X11_colour (Z : kk_Z) (v1 : Int32) (v2 : Int32) (σ : kk_St) (Q : Int32 → Prop) (h : f_X11_colour v1 v2 σ Q) : kk_M Z sh_M yX11_colour cX11_colour 5 (some .int) (kk_R 7) [.ref (Z.2.1 0), .int v1, .int v2] σ (kk_Qi Z sh_M (fun r σ' => σ' = σ ∧ Q r)) := by
  unfold f_X11_colour at h
  refine kk_met (own := RX11) (by decide) rfl (Nat.le_of_ble_eq_true rfl) rfl ?_
  refine kk_aload_n 0 rfl e_X11_colour_0 ?_
  refine kk_iload_n 1 rfl e_X11_colour_1 ?_
  refine kk_callVip (As := [.int v1]) (rest := []) e_X11_colour_2 ml_X11_131 ⟨_, _, _, _, rfl, rfl⟩ rfl (kk_fitR (by decide) (by decide)) (Nat.le_of_ble_eq_true rfl) rfl (s_X11_isColour Z v1 σ _ h) (fun r_1 h => ?_)
  refine kk_if_ne e_X11_colour_5 (fun c_21 => ?_) (fun c_21 => ?_)
  · replace h := h.1 c_21
    refine kk_iload_n 2 rfl e_X11_colour_10 ?_
    rcases kk_swc v2 3 (by decide) with ⟨i, hi, hx⟩ | hx
    · rcases (show i = 0 ∨ i = 1 ∨ i = 2 by omega) with rfl | rfl | rfl
      · replace h := h.1 hx
        refine kk_swIn (tgt := 36) e_X11_colour_11 0 hx (by decide) (by decide) rfl (by decide) ?_
        refine kk_aload_n 0 rfl e_X11_colour_36 ?_
        refine kk_aload_n 0 rfl e_X11_colour_37 ?_
        refine kk_callVip (As := []) (rest := [.ref (Z.2.1 0)]) e_X11_colour_38 ml_X11_120 ⟨_, _, _, _, rfl, rfl⟩ rfl (kk_fitR (by decide) (by decide)) (Nat.le_of_ble_eq_true rfl) rfl (s_X11_allLines Z σ _ h) (fun r_2 h => ?_)
        refine kk_iload_n 1 rfl e_X11_colour_41 ?_
        refine kk_callVip (As := [.int r_2, .int v1]) (rest := []) e_X11_colour_42 ml_X11_163 ⟨_, _, _, _, rfl, rfl⟩ rfl (kk_fitR (by decide) (by decide)) (Nat.le_of_ble_eq_true rfl) rfl (s_X11_manyWith Z r_2 v1 σ _ h) (fun r_3 h => ?_)
        exact kk_iret e_X11_colour_45 ⟨rfl, h⟩
      · replace h := h.2.1 hx
        refine kk_swIn (tgt := 46) e_X11_colour_11 1 hx (by decide) (by decide) rfl (by decide) ?_
        refine kk_iconst ic_0 e_X11_colour_46 ?_
        refine kk_istore_n (lv' := [(3, .int (0 : Int32)), (0, .ref (Z.2.1 0)), (1, .int v1), (2, .int v2)]) e_X11_colour_47 rfl (by decide) rfl ?_
        refine kk_iconst ic_0 e_X11_colour_48 ?_
        refine kk_istore (lv' := [(4, .int (0 : Int32)), (3, .int (0 : Int32)), (0, .ref (Z.2.1 0)), (1, .int v1), (2, .int v2)]) e_X11_colour_49 (by decide) rfl ?_
        refine kk_sub [2, 3, 1, 0] rfl ?_
        refine kk_lpW2 (P := fun (v3_4 : Int32) (v4_5 : Int32) => KK Z sh_M RX11 cX11_colour 5 (some .int) (kk_R 7) (kk_Qi Z sh_M (fun r σ' => σ' = σ ∧ Q r)) 51 [(0, .ref (Z.2.1 0)), (1, .int v1), (3, .int v3_4), (4, .int v4_5)] [] σ) ?_ h
        intro rec_6 hrec_6 v3_4 v4_5 h
        refine kk_iload 3 rfl e_X11_colour_51 ?_
        refine kk_aload_n 0 rfl e_X11_colour_53 ?_
        refine kk_geti e_X11_colour_54 fl_X11_96 rfl rfl ?_
        refine kk_icmp_ge e_X11_colour_57 (fun c_11 => ?_) (fun c_11 => ?_)
        · replace h := h.1 c_11
          refine kk_iload_n 2 rfl e_X11_colour_84 ?_
          exact kk_iret e_X11_colour_85 ⟨rfl, h⟩
        · replace h := h.2 c_11
          refine kk_aload_n 0 rfl e_X11_colour_60 ?_
          refine kk_getr e_X11_colour_61 fl_X11_31 rfl rfl ?_
          refine kk_iload 3 rfl e_X11_colour_64 ?_
          refine kk_iald e_X11_colour_66 rfl h.1 ?_
          replace h := h.2
          refine kk_iload_n 1 rfl e_X11_colour_67 ?_
          refine kk_jW1 (P := fun (v3_7 : Int32) => KK Z sh_M RX11 cX11_colour 5 (some .int) (kk_R 7) (kk_Qi Z sh_M (fun r σ' => σ' = σ ∧ Q r)) 78 [(0, .ref (Z.2.1 0)), (1, .int v1), (3, .int v3_7), (4, .int v4_5)] [] σ) h ?_ ?_
          · intro v3_7 h
            refine kk_iinc (lv' := [(4, .int (v4_5 + (1 : Int32))), (0, .ref (Z.2.1 0)), (1, .int v1), (3, .int v3_7)]) e_X11_colour_78 (j := 3) rfl (ii_1 v4_5) (by decide) rfl ?_
            refine kk_goto e_X11_colour_81 ?_
            exact kk_sub [1, 2, 3, 0] rfl (hrec_6 v3_7 (v4_5 + (1 : Int32)) h)
          · intro J_8 hJ_8 h
            refine kk_icmp_ne e_X11_colour_68 (fun c_10 => ?_) (fun c_10 => ?_)
            · replace h := h.1 c_10
              exact kk_sub [0, 1, 2, 3] rfl (hJ_8 v3_4 h)
            · replace h := h.2 c_10
              refine kk_iload_n 2 rfl e_X11_colour_71 ?_
              refine kk_iconst ic_1 e_X11_colour_72 ?_
              refine kk_iload 3 rfl e_X11_colour_73 ?_
              refine kk_ishl e_X11_colour_75 ?_
              refine kk_ior e_X11_colour_76 ?_
              refine kk_topi (fun v3_9 ev3_9 => ?_)
              replace h := h v3_9 ev3_9
              refine kk_istore_n (lv' := [(3, .int v3_9), (0, .ref (Z.2.1 0)), (1, .int v1), (4, .int v4_5)]) e_X11_colour_77 rfl (by decide) rfl ?_
              exact kk_sub [1, 2, 0, 3] rfl (hJ_8 v3_9 h)
      · replace h := h.2.2.1 hx
        refine kk_swIn (tgt := 86) e_X11_colour_11 2 hx (by decide) (by decide) rfl (by decide) ?_
        refine kk_iconst ic_0 e_X11_colour_86 ?_
        refine kk_istore_n (lv' := [(3, .int (0 : Int32)), (0, .ref (Z.2.1 0)), (1, .int v1), (2, .int v2)]) e_X11_colour_87 rfl (by decide) rfl ?_
        refine kk_iconst ic_0 e_X11_colour_88 ?_
        refine kk_istore (lv' := [(4, .int (0 : Int32)), (3, .int (0 : Int32)), (0, .ref (Z.2.1 0)), (1, .int v1), (2, .int v2)]) e_X11_colour_89 (by decide) rfl ?_
        refine kk_sub [2, 3, 1, 0] rfl ?_
        refine kk_lpW2 (P := fun (v3_12 : Int32) (v4_13 : Int32) => KK Z sh_M RX11 cX11_colour 5 (some .int) (kk_R 7) (kk_Qi Z sh_M (fun r σ' => σ' = σ ∧ Q r)) 91 [(0, .ref (Z.2.1 0)), (1, .int v1), (3, .int v3_12), (4, .int v4_13)] [] σ) ?_ h
        intro rec_14 hrec_14 v3_12 v4_13 h
        refine kk_iload 3 rfl e_X11_colour_91 ?_
        refine kk_aload_n 0 rfl e_X11_colour_93 ?_
        refine kk_geti e_X11_colour_94 fl_X11_21 rfl rfl ?_
        refine kk_icmp_ge e_X11_colour_97 (fun c_20 => ?_) (fun c_20 => ?_)
        · replace h := h.1 c_20
          refine kk_iload_n 2 rfl e_X11_colour_123 ?_
          exact kk_iret e_X11_colour_124 ⟨rfl, h⟩
        · replace h := h.2 c_20
          refine kk_aload_n 0 rfl e_X11_colour_100 ?_
          refine kk_iload 3 rfl e_X11_colour_101 ?_
          refine kk_iload_n 1 rfl e_X11_colour_103 ?_
          refine kk_callVip (As := [.int v4_13, .int v1]) (rest := []) e_X11_colour_104 ml_X11_140 ⟨_, _, _, _, rfl, rfl⟩ rfl (kk_fitR (by decide) (by decide)) (Nat.le_of_ble_eq_true rfl) rfl (s_X11_isFreeAt Z v4_13 v1 σ _ h) (fun r_15 h => ?_)
          refine kk_jW1 (P := fun (v3_16 : Int32) => KK Z sh_M RX11 cX11_colour 5 (some .int) (kk_R 7) (kk_Qi Z sh_M (fun r σ' => σ' = σ ∧ Q r)) 117 [(0, .ref (Z.2.1 0)), (1, .int v1), (3, .int v3_16), (4, .int v4_13)] [] σ) h ?_ ?_
          · intro v3_16 h
            refine kk_iinc (lv' := [(4, .int (v4_13 + (1 : Int32))), (0, .ref (Z.2.1 0)), (1, .int v1), (3, .int v3_16)]) e_X11_colour_117 (j := 3) rfl (ii_1 v4_13) (by decide) rfl ?_
            refine kk_goto e_X11_colour_120 ?_
            exact kk_sub [1, 2, 3, 0] rfl (hrec_14 v3_16 (v4_13 + (1 : Int32)) h)
          · intro J_17 hJ_17 h
            refine kk_if_eq e_X11_colour_107 (fun c_19 => ?_) (fun c_19 => ?_)
            · replace h := h.1 c_19
              exact kk_sub [0, 1, 2, 3] rfl (hJ_17 v3_12 h)
            · replace h := h.2 c_19
              refine kk_iload_n 2 rfl e_X11_colour_110 ?_
              refine kk_iconst ic_1 e_X11_colour_111 ?_
              refine kk_iload 3 rfl e_X11_colour_112 ?_
              refine kk_ishl e_X11_colour_114 ?_
              refine kk_ior e_X11_colour_115 ?_
              refine kk_topi (fun v3_18 ev3_18 => ?_)
              replace h := h v3_18 ev3_18
              refine kk_istore_n (lv' := [(3, .int v3_18), (0, .ref (Z.2.1 0)), (1, .int v1), (4, .int v4_13)]) e_X11_colour_116 rfl (by decide) rfl ?_
              exact kk_sub [1, 2, 0, 3] rfl (hJ_17 v3_18 h)
    · replace h := h.2.2.2 (by omega)
      refine kk_swOut (tgt := 125) e_X11_colour_11 (by omega) (by decide) ?_
      refine kk_iconst ic_m1 e_X11_colour_125 ?_
      exact kk_iret e_X11_colour_126 ⟨rfl, h⟩
  · replace h := h.2 c_21
    refine kk_iconst ic_m1 e_X11_colour_8 ?_
    exact kk_iret e_X11_colour_9 ⟨rfl, h⟩
theorem e_X11_free_0 : kk_d cX11_free 0 (.aload_n 0) 1 1 := ⟨by decide +kernel, rfl⟩
theorem e_X11_free_1 : kk_d cX11_free 1 (.iload_n 1) 1 2 := ⟨by decide +kernel, rfl⟩
theorem e_X11_free_2 : kk_d cX11_free 2 (.invokevirtual 143) 3 5 := ⟨by decide +kernel, rfl⟩
theorem e_X11_free_5 : kk_dj cX11_free 5 (.ifCond .ne 5) 3 (5) 8 10 := ⟨by decide +kernel, rfl, by decide⟩
theorem e_X11_free_10 : kk_d cX11_free 10 (.iconst 1) 1 11 := ⟨by decide +kernel, rfl⟩
theorem e_X11_free_11 : kk_d cX11_free 11 (.aload_n 0) 1 12 := ⟨by decide +kernel, rfl⟩
theorem e_X11_free_12 : kk_d cX11_free 12 (.invokevirtual 128) 3 15 := ⟨by decide +kernel, rfl⟩
theorem e_X11_free_15 : kk_d cX11_free 15 (.iconst 1) 1 16 := ⟨by decide +kernel, rfl⟩
theorem e_X11_free_16 : kk_d cX11_free 16 .iadd 1 17 := ⟨by decide +kernel, rfl⟩
theorem e_X11_free_17 : kk_d cX11_free 17 .ishl 1 18 := ⟨by decide +kernel, rfl⟩
theorem e_X11_free_18 : kk_d cX11_free 18 (.iconst 1) 1 19 := ⟨by decide +kernel, rfl⟩
theorem e_X11_free_19 : kk_d cX11_free 19 .isub 1 20 := ⟨by decide +kernel, rfl⟩
theorem e_X11_free_20 : kk_d cX11_free 20 (.aload_n 0) 1 21 := ⟨by decide +kernel, rfl⟩
theorem e_X11_free_21 : kk_d cX11_free 21 (.aload_n 0) 1 22 := ⟨by decide +kernel, rfl⟩
theorem e_X11_free_22 : kk_d cX11_free 22 (.getfield 24) 3 25 := ⟨by decide +kernel, rfl⟩
theorem e_X11_free_25 : kk_d cX11_free 25 (.iload_n 1) 1 26 := ⟨by decide +kernel, rfl⟩
theorem e_X11_free_26 : kk_d cX11_free 26 .iaload 1 27 := ⟨by decide +kernel, rfl⟩
theorem e_X11_free_27 : kk_d cX11_free 27 (.invokevirtual 195) 3 30 := ⟨by decide +kernel, rfl⟩
theorem e_X11_free_30 : kk_d cX11_free 30 (.iconst (-1)) 1 31 := ⟨by decide +kernel, rfl⟩
theorem e_X11_free_31 : kk_d cX11_free 31 .ixor 1 32 := ⟨by decide +kernel, rfl⟩
theorem e_X11_free_32 : kk_d cX11_free 32 .iand 1 33 := ⟨by decide +kernel, rfl⟩
theorem e_X11_free_33 : kk_d cX11_free 33 (.aload_n 0) 1 34 := ⟨by decide +kernel, rfl⟩
theorem e_X11_free_34 : kk_d cX11_free 34 (.aload_n 0) 1 35 := ⟨by decide +kernel, rfl⟩
theorem e_X11_free_35 : kk_d cX11_free 35 (.getfield 28) 3 38 := ⟨by decide +kernel, rfl⟩
theorem e_X11_free_38 : kk_d cX11_free 38 (.iload_n 1) 1 39 := ⟨by decide +kernel, rfl⟩
theorem e_X11_free_39 : kk_d cX11_free 39 .iaload 1 40 := ⟨by decide +kernel, rfl⟩
theorem e_X11_free_40 : kk_d cX11_free 40 (.invokevirtual 195) 3 43 := ⟨by decide +kernel, rfl⟩
theorem e_X11_free_43 : kk_d cX11_free 43 (.iconst (-1)) 1 44 := ⟨by decide +kernel, rfl⟩
theorem e_X11_free_44 : kk_d cX11_free 44 .ixor 1 45 := ⟨by decide +kernel, rfl⟩
theorem e_X11_free_45 : kk_d cX11_free 45 .iand 1 46 := ⟨by decide +kernel, rfl⟩
theorem e_X11_free_46 : kk_d cX11_free 46 .ireturn 1 47 := ⟨by decide +kernel, rfl⟩
theorem e_X11_free_8 : kk_d cX11_free 8 (.iconst (-1)) 1 9 := ⟨by decide +kernel, rfl⟩
theorem e_X11_free_9 : kk_d cX11_free 9 .ireturn 1 10 := ⟨by decide +kernel, rfl⟩
set_option maxRecDepth 4000 in
theorem s_X11_free (Z : kk_Z) (v1 : Int32) (σ : kk_St) (Q : Int32 → Prop) (h : f_X11_free v1 σ Q) : kk_M Z sh_M yX11_free cX11_free 2 (some .int) (kk_R 6) [.ref (Z.2.1 0), .int v1] σ (kk_Qi Z sh_M (fun r σ' => σ' = σ ∧ Q r)) := by
  unfold f_X11_free at h
  refine kk_met (own := RX11) (by decide) rfl (Nat.le_of_ble_eq_true rfl) rfl ?_
  refine kk_aload_n 0 rfl e_X11_free_0 ?_
  refine kk_iload_n 1 rfl e_X11_free_1 ?_
  refine kk_callVip (As := [.int v1]) (rest := []) e_X11_free_2 ml_X11_143 ⟨_, _, _, _, rfl, rfl⟩ rfl (kk_fitR (by decide) (by decide)) (Nat.le_of_ble_eq_true rfl) rfl (s_X11_isLine Z v1 σ _ h) (fun r_1 h => ?_)
  refine kk_if_ne e_X11_free_5 (fun c_5 => ?_) (fun c_5 => ?_)
  · replace h := h.1 c_5
    refine kk_iconst ic_1 e_X11_free_10 ?_
    refine kk_aload_n 0 rfl e_X11_free_11 ?_
    refine kk_callVip (As := []) (rest := [.int (1 : Int32)]) e_X11_free_12 ml_X11_128 ⟨_, _, _, _, rfl, rfl⟩ rfl (kk_fitR (by decide) (by decide)) (Nat.le_of_ble_eq_true rfl) rfl (s_X11_degree Z σ _ h) (fun r_2 h => ?_)
    refine kk_iconst ic_1 e_X11_free_15 ?_
    refine kk_iadd e_X11_free_16 ?_
    refine kk_ishl e_X11_free_17 ?_
    refine kk_iconst ic_1 e_X11_free_18 ?_
    refine kk_isub e_X11_free_19 ?_
    refine kk_aload_n 0 rfl e_X11_free_20 ?_
    refine kk_aload_n 0 rfl e_X11_free_21 ?_
    refine kk_getr e_X11_free_22 fl_X11_24 rfl rfl ?_
    refine kk_iload_n 1 rfl e_X11_free_25 ?_
    refine kk_iald e_X11_free_26 rfl h.1 ?_
    replace h := h.2
    refine kk_callVip (As := [.int (kk_rd σ 1 v1)]) (rest := [.int (((1 : Int32) <<< ((r_2 + (1 : Int32)) &&& 31)) - (1 : Int32))]) e_X11_free_27 ml_X11_195 ⟨_, _, _, _, rfl, rfl⟩ rfl (kk_fitR (by decide) (by decide)) (Nat.le_of_ble_eq_true rfl) rfl (s_X11_usedAt Z (kk_rd σ 1 v1) σ _ h) (fun r_3 h => ?_)
    refine kk_iconst ic_m1 e_X11_free_30 ?_
    refine kk_ixor e_X11_free_31 ?_
    refine kk_iand e_X11_free_32 ?_
    refine kk_aload_n 0 rfl e_X11_free_33 ?_
    refine kk_aload_n 0 rfl e_X11_free_34 ?_
    refine kk_getr e_X11_free_35 fl_X11_28 rfl rfl ?_
    refine kk_iload_n 1 rfl e_X11_free_38 ?_
    refine kk_iald e_X11_free_39 rfl h.1 ?_
    replace h := h.2
    refine kk_callVip (As := [.int (kk_rd σ 2 v1)]) (rest := [.int ((((1 : Int32) <<< ((r_2 + (1 : Int32)) &&& 31)) - (1 : Int32)) &&& (r_3 ^^^ (-1 : Int32)))]) e_X11_free_40 ml_X11_195 ⟨_, _, _, _, rfl, rfl⟩ rfl (kk_fitR (by decide) (by decide)) (Nat.le_of_ble_eq_true rfl) rfl (s_X11_usedAt Z (kk_rd σ 2 v1) σ _ h) (fun r_4 h => ?_)
    refine kk_iconst ic_m1 e_X11_free_43 ?_
    refine kk_ixor e_X11_free_44 ?_
    refine kk_iand e_X11_free_45 ?_
    exact kk_iret e_X11_free_46 ⟨rfl, h⟩
  · replace h := h.2 c_5
    refine kk_iconst ic_m1 e_X11_free_8 ?_
    exact kk_iret e_X11_free_9 ⟨rfl, h⟩
theorem e_X11_easyMany_0 : kk_d cX11_easyMany 0 (.iconst 0) 1 1 := ⟨by decide +kernel, rfl⟩
theorem e_X11_easyMany_1 : kk_d cX11_easyMany 1 (.istore_n 1) 1 2 := ⟨by decide +kernel, rfl⟩
theorem e_X11_easyMany_2 : kk_d cX11_easyMany 2 (.iconst 0) 1 3 := ⟨by decide +kernel, rfl⟩
theorem e_X11_easyMany_3 : kk_d cX11_easyMany 3 (.istore_n 2) 1 4 := ⟨by decide +kernel, rfl⟩
theorem e_X11_easyMany_4 : kk_d cX11_easyMany 4 (.iload_n 2) 1 5 := ⟨by decide +kernel, rfl⟩
theorem e_X11_easyMany_5 : kk_d cX11_easyMany 5 (.aload_n 0) 1 6 := ⟨by decide +kernel, rfl⟩
theorem e_X11_easyMany_6 : kk_d cX11_easyMany 6 (.getfield 96) 3 9 := ⟨by decide +kernel, rfl⟩
theorem e_X11_easyMany_9 : kk_dj cX11_easyMany 9 (.if_icmp .ge 38) 3 (38) 12 47 := ⟨by decide +kernel, rfl, by decide⟩
theorem e_X11_easyMany_47 : kk_d cX11_easyMany 47 (.iload_n 1) 1 48 := ⟨by decide +kernel, rfl⟩
theorem e_X11_easyMany_48 : kk_d cX11_easyMany 48 .ireturn 1 49 := ⟨by decide +kernel, rfl⟩
theorem e_X11_easyMany_12 : kk_d cX11_easyMany 12 (.aload_n 0) 1 13 := ⟨by decide +kernel, rfl⟩
theorem e_X11_easyMany_13 : kk_d cX11_easyMany 13 (.getfield 31) 3 16 := ⟨by decide +kernel, rfl⟩
theorem e_X11_easyMany_16 : kk_d cX11_easyMany 16 (.iload_n 2) 1 17 := ⟨by decide +kernel, rfl⟩
theorem e_X11_easyMany_17 : kk_d cX11_easyMany 17 .iaload 1 18 := ⟨by decide +kernel, rfl⟩
theorem e_X11_easyMany_18 : kk_dj cX11_easyMany 18 (.ifCond .ge 23) 3 (23) 21 41 := ⟨by decide +kernel, rfl, by decide⟩
theorem e_X11_easyMany_41 : kk_d cX11_easyMany 41 (.iinc 2 1) 3 44 := ⟨by decide +kernel, rfl⟩
theorem e_X11_easyMany_44 : kk_dj cX11_easyMany 44 (.goto (-40)) 3 (-40) 47 4 := ⟨by decide +kernel, rfl, by decide⟩
theorem e_X11_easyMany_21 : kk_d cX11_easyMany 21 (.iconst 1) 1 22 := ⟨by decide +kernel, rfl⟩
theorem e_X11_easyMany_22 : kk_d cX11_easyMany 22 (.aload_n 0) 1 23 := ⟨by decide +kernel, rfl⟩
theorem e_X11_easyMany_23 : kk_d cX11_easyMany 23 (.invokevirtual 128) 3 26 := ⟨by decide +kernel, rfl⟩
theorem e_X11_easyMany_26 : kk_d cX11_easyMany 26 .ishl 1 27 := ⟨by decide +kernel, rfl⟩
theorem e_X11_easyMany_27 : kk_d cX11_easyMany 27 (.iconst 1) 1 28 := ⟨by decide +kernel, rfl⟩
theorem e_X11_easyMany_28 : kk_d cX11_easyMany 28 .isub 1 29 := ⟨by decide +kernel, rfl⟩
theorem e_X11_easyMany_29 : kk_d cX11_easyMany 29 (.aload_n 0) 1 30 := ⟨by decide +kernel, rfl⟩
theorem e_X11_easyMany_30 : kk_d cX11_easyMany 30 (.iload_n 2) 1 31 := ⟨by decide +kernel, rfl⟩
theorem e_X11_easyMany_31 : kk_d cX11_easyMany 31 (.invokevirtual 320) 3 34 := ⟨by decide +kernel, rfl⟩
theorem e_X11_easyMany_34 : kk_d cX11_easyMany 34 .iand 1 35 := ⟨by decide +kernel, rfl⟩
theorem e_X11_easyMany_35 : kk_dj cX11_easyMany 35 (.ifCond .eq 6) 3 (6) 38 41 := ⟨by decide +kernel, rfl, by decide⟩
theorem e_X11_easyMany_38 : kk_d cX11_easyMany 38 (.iinc 1 1) 3 41 := ⟨by decide +kernel, rfl⟩
set_option maxRecDepth 4000 in
theorem s_X11_easyMany (Z : kk_Z) (σ : kk_St) (Q : Int32 → Prop) (h : f_X11_easyMany σ Q) : kk_M Z sh_M yX11_easyMany cX11_easyMany 3 (some .int) (kk_R 7) [.ref (Z.2.1 0)] σ (kk_Qi Z sh_M (fun r σ' => σ' = σ ∧ Q r)) := by
  unfold f_X11_easyMany at h
  refine kk_met (own := RX11) (by decide) rfl (Nat.le_of_ble_eq_true rfl) rfl ?_
  refine kk_iconst ic_0 e_X11_easyMany_0 ?_
  refine kk_istore_n (lv' := [(1, .int (0 : Int32)), (0, .ref (Z.2.1 0))]) e_X11_easyMany_1 rfl (by decide) rfl ?_
  refine kk_iconst ic_0 e_X11_easyMany_2 ?_
  refine kk_istore_n (lv' := [(2, .int (0 : Int32)), (1, .int (0 : Int32)), (0, .ref (Z.2.1 0))]) e_X11_easyMany_3 rfl (by decide) rfl ?_
  refine kk_sub [2, 1, 0] rfl ?_
  refine kk_lpW2 (P := fun (v1_1 : Int32) (v2_2 : Int32) => KK Z sh_M RX11 cX11_easyMany 3 (some .int) (kk_R 7) (kk_Qi Z sh_M (fun r σ' => σ' = σ ∧ Q r)) 4 [(0, .ref (Z.2.1 0)), (1, .int v1_1), (2, .int v2_2)] [] σ) ?_ h
  intro rec_3 hrec_3 v1_1 v2_2 h
  refine kk_iload_n 2 rfl e_X11_easyMany_4 ?_
  refine kk_aload_n 0 rfl e_X11_easyMany_5 ?_
  refine kk_geti e_X11_easyMany_6 fl_X11_96 rfl rfl ?_
  refine kk_icmp_ge e_X11_easyMany_9 (fun c_10 => ?_) (fun c_10 => ?_)
  · replace h := h.1 c_10
    refine kk_iload_n 1 rfl e_X11_easyMany_47 ?_
    exact kk_iret e_X11_easyMany_48 ⟨rfl, h⟩
  · replace h := h.2 c_10
    refine kk_aload_n 0 rfl e_X11_easyMany_12 ?_
    refine kk_getr e_X11_easyMany_13 fl_X11_31 rfl rfl ?_
    refine kk_iload_n 2 rfl e_X11_easyMany_16 ?_
    refine kk_iald e_X11_easyMany_17 rfl h.1 ?_
    replace h := h.2
    refine kk_jW1 (P := fun (v1_4 : Int32) => KK Z sh_M RX11 cX11_easyMany 3 (some .int) (kk_R 7) (kk_Qi Z sh_M (fun r σ' => σ' = σ ∧ Q r)) 41 [(0, .ref (Z.2.1 0)), (1, .int v1_4), (2, .int v2_2)] [] σ) h ?_ ?_
    · intro v1_4 h
      refine kk_iinc (lv' := [(2, .int (v2_2 + (1 : Int32))), (0, .ref (Z.2.1 0)), (1, .int v1_4)]) e_X11_easyMany_41 (j := 2) rfl (ii_1 v2_2) (by decide) rfl ?_
      refine kk_goto e_X11_easyMany_44 ?_
      exact kk_sub [1, 2, 0] rfl (hrec_3 v1_4 (v2_2 + (1 : Int32)) h)
    · intro J_5 hJ_5 h
      refine kk_if_ge e_X11_easyMany_18 (fun c_9 => ?_) (fun c_9 => ?_)
      · replace h := h.1 c_9
        exact kk_sub [0, 1, 2] rfl (hJ_5 v1_1 h)
      · replace h := h.2 c_9
        refine kk_iconst ic_1 e_X11_easyMany_21 ?_
        refine kk_aload_n 0 rfl e_X11_easyMany_22 ?_
        refine kk_callVip (As := []) (rest := [.int (1 : Int32)]) e_X11_easyMany_23 ml_X11_128 ⟨_, _, _, _, rfl, rfl⟩ rfl (kk_fitR (by decide) (by decide)) (Nat.le_of_ble_eq_true rfl) rfl (s_X11_degree Z σ _ h) (fun r_6 h => ?_)
        refine kk_ishl e_X11_easyMany_26 ?_
        refine kk_iconst ic_1 e_X11_easyMany_27 ?_
        refine kk_isub e_X11_easyMany_28 ?_
        refine kk_aload_n 0 rfl e_X11_easyMany_29 ?_
        refine kk_iload_n 2 rfl e_X11_easyMany_30 ?_
        refine kk_callVip (As := [.int v2_2]) (rest := [.int (((1 : Int32) <<< (r_6 &&& 31)) - (1 : Int32))]) e_X11_easyMany_31 ml_X11_320 ⟨_, _, _, _, rfl, rfl⟩ rfl (kk_fitR (by decide) (by decide)) (Nat.le_of_ble_eq_true rfl) rfl (s_X11_free Z v2_2 σ _ h) (fun r_7 h => ?_)
        refine kk_iand e_X11_easyMany_34 ?_
        refine kk_if_eq e_X11_easyMany_35 (fun c_8 => ?_) (fun c_8 => ?_)
        · replace h := h.1 c_8
          exact kk_sub [0, 1, 2] rfl (hJ_5 v1_1 h)
        · replace h := h.2 c_8
          refine kk_iinc (lv' := [(1, .int (v1_1 + (1 : Int32))), (0, .ref (Z.2.1 0)), (2, .int v2_2)]) e_X11_easyMany_38 (j := 1) rfl (ii_1 v1_1) (by decide) rfl ?_
          exact kk_sub [1, 0, 2] rfl (hJ_5 (v1_1 + (1 : Int32)) h)
theorem e_X11_greatestUsed_0 : kk_d cX11_greatestUsed 0 (.iconst (-1)) 1 1 := ⟨by decide +kernel, rfl⟩
theorem e_X11_greatestUsed_1 : kk_d cX11_greatestUsed 1 (.istore_n 1) 1 2 := ⟨by decide +kernel, rfl⟩
theorem e_X11_greatestUsed_2 : kk_d cX11_greatestUsed 2 (.iconst 0) 1 3 := ⟨by decide +kernel, rfl⟩
theorem e_X11_greatestUsed_3 : kk_d cX11_greatestUsed 3 (.istore_n 2) 1 4 := ⟨by decide +kernel, rfl⟩
theorem e_X11_greatestUsed_4 : kk_d cX11_greatestUsed 4 (.iload_n 2) 1 5 := ⟨by decide +kernel, rfl⟩
theorem e_X11_greatestUsed_5 : kk_d cX11_greatestUsed 5 (.aload_n 0) 1 6 := ⟨by decide +kernel, rfl⟩
theorem e_X11_greatestUsed_6 : kk_d cX11_greatestUsed 6 (.getfield 96) 3 9 := ⟨by decide +kernel, rfl⟩
theorem e_X11_greatestUsed_9 : kk_dj cX11_greatestUsed 9 (.if_icmp .ge 26) 3 (26) 12 35 := ⟨by decide +kernel, rfl, by decide⟩
theorem e_X11_greatestUsed_35 : kk_d cX11_greatestUsed 35 (.iload_n 1) 1 36 := ⟨by decide +kernel, rfl⟩
theorem e_X11_greatestUsed_36 : kk_d cX11_greatestUsed 36 .ireturn 1 37 := ⟨by decide +kernel, rfl⟩
theorem e_X11_greatestUsed_12 : kk_d cX11_greatestUsed 12 (.aload_n 0) 1 13 := ⟨by decide +kernel, rfl⟩
theorem e_X11_greatestUsed_13 : kk_d cX11_greatestUsed 13 (.getfield 31) 3 16 := ⟨by decide +kernel, rfl⟩
theorem e_X11_greatestUsed_16 : kk_d cX11_greatestUsed 16 (.iload_n 2) 1 17 := ⟨by decide +kernel, rfl⟩
theorem e_X11_greatestUsed_17 : kk_d cX11_greatestUsed 17 .iaload 1 18 := ⟨by decide +kernel, rfl⟩
theorem e_X11_greatestUsed_18 : kk_d cX11_greatestUsed 18 (.iload_n 1) 1 19 := ⟨by decide +kernel, rfl⟩
theorem e_X11_greatestUsed_19 : kk_dj cX11_greatestUsed 19 (.if_icmp .le 10) 3 (10) 22 29 := ⟨by decide +kernel, rfl, by decide⟩
theorem e_X11_greatestUsed_29 : kk_d cX11_greatestUsed 29 (.iinc 2 1) 3 32 := ⟨by decide +kernel, rfl⟩
theorem e_X11_greatestUsed_32 : kk_dj cX11_greatestUsed 32 (.goto (-28)) 3 (-28) 35 4 := ⟨by decide +kernel, rfl, by decide⟩
theorem e_X11_greatestUsed_22 : kk_d cX11_greatestUsed 22 (.aload_n 0) 1 23 := ⟨by decide +kernel, rfl⟩
theorem e_X11_greatestUsed_23 : kk_d cX11_greatestUsed 23 (.getfield 31) 3 26 := ⟨by decide +kernel, rfl⟩
theorem e_X11_greatestUsed_26 : kk_d cX11_greatestUsed 26 (.iload_n 2) 1 27 := ⟨by decide +kernel, rfl⟩
theorem e_X11_greatestUsed_27 : kk_d cX11_greatestUsed 27 .iaload 1 28 := ⟨by decide +kernel, rfl⟩
theorem e_X11_greatestUsed_28 : kk_d cX11_greatestUsed 28 (.istore_n 1) 1 29 := ⟨by decide +kernel, rfl⟩
set_option maxRecDepth 4000 in
theorem s_X11_greatestUsed (Z : kk_Z) (σ : kk_St) (Q : Int32 → Prop) (h : f_X11_greatestUsed σ Q) : kk_M Z sh_M yX11_greatestUsed cX11_greatestUsed 3 (some .int) (kk_R 2) [.ref (Z.2.1 0)] σ (kk_Qi Z sh_M (fun r σ' => σ' = σ ∧ Q r)) := by
  unfold f_X11_greatestUsed at h
  refine kk_met (own := RX11) (by decide) rfl (Nat.le_of_ble_eq_true rfl) rfl ?_
  refine kk_iconst ic_m1 e_X11_greatestUsed_0 ?_
  refine kk_istore_n (lv' := [(1, .int (-1 : Int32)), (0, .ref (Z.2.1 0))]) e_X11_greatestUsed_1 rfl (by decide) rfl ?_
  refine kk_iconst ic_0 e_X11_greatestUsed_2 ?_
  refine kk_istore_n (lv' := [(2, .int (0 : Int32)), (1, .int (-1 : Int32)), (0, .ref (Z.2.1 0))]) e_X11_greatestUsed_3 rfl (by decide) rfl ?_
  refine kk_sub [2, 1, 0] rfl ?_
  refine kk_lpW2 (P := fun (v1_1 : Int32) (v2_2 : Int32) => KK Z sh_M RX11 cX11_greatestUsed 3 (some .int) (kk_R 2) (kk_Qi Z sh_M (fun r σ' => σ' = σ ∧ Q r)) 4 [(0, .ref (Z.2.1 0)), (1, .int v1_1), (2, .int v2_2)] [] σ) ?_ h
  intro rec_3 hrec_3 v1_1 v2_2 h
  refine kk_iload_n 2 rfl e_X11_greatestUsed_4 ?_
  refine kk_aload_n 0 rfl e_X11_greatestUsed_5 ?_
  refine kk_geti e_X11_greatestUsed_6 fl_X11_96 rfl rfl ?_
  refine kk_icmp_ge e_X11_greatestUsed_9 (fun c_7 => ?_) (fun c_7 => ?_)
  · replace h := h.1 c_7
    refine kk_iload_n 1 rfl e_X11_greatestUsed_35 ?_
    exact kk_iret e_X11_greatestUsed_36 ⟨rfl, h⟩
  · replace h := h.2 c_7
    refine kk_aload_n 0 rfl e_X11_greatestUsed_12 ?_
    refine kk_getr e_X11_greatestUsed_13 fl_X11_31 rfl rfl ?_
    refine kk_iload_n 2 rfl e_X11_greatestUsed_16 ?_
    refine kk_iald e_X11_greatestUsed_17 rfl h.1 ?_
    replace h := h.2
    refine kk_iload_n 1 rfl e_X11_greatestUsed_18 ?_
    refine kk_jW1 (P := fun (v1_4 : Int32) => KK Z sh_M RX11 cX11_greatestUsed 3 (some .int) (kk_R 2) (kk_Qi Z sh_M (fun r σ' => σ' = σ ∧ Q r)) 29 [(0, .ref (Z.2.1 0)), (1, .int v1_4), (2, .int v2_2)] [] σ) h ?_ ?_
    · intro v1_4 h
      refine kk_iinc (lv' := [(2, .int (v2_2 + (1 : Int32))), (0, .ref (Z.2.1 0)), (1, .int v1_4)]) e_X11_greatestUsed_29 (j := 2) rfl (ii_1 v2_2) (by decide) rfl ?_
      refine kk_goto e_X11_greatestUsed_32 ?_
      exact kk_sub [1, 2, 0] rfl (hrec_3 v1_4 (v2_2 + (1 : Int32)) h)
    · intro J_5 hJ_5 h
      refine kk_icmp_le e_X11_greatestUsed_19 (fun c_6 => ?_) (fun c_6 => ?_)
      · replace h := h.1 c_6
        exact kk_sub [0, 1, 2] rfl (hJ_5 v1_1 h)
      · replace h := h.2 c_6
        refine kk_aload_n 0 rfl e_X11_greatestUsed_22 ?_
        refine kk_getr e_X11_greatestUsed_23 fl_X11_31 rfl rfl ?_
        refine kk_iload_n 2 rfl e_X11_greatestUsed_26 ?_
        refine kk_iald e_X11_greatestUsed_27 rfl h.1 ?_
        replace h := h.2
        refine kk_istore_n (lv' := [(1, .int (kk_rd σ 3 v2_2)), (0, .ref (Z.2.1 0)), (2, .int v2_2)]) e_X11_greatestUsed_28 rfl (by decide) rfl ?_
        exact kk_sub [1, 0, 2] rfl (hJ_5 (kk_rd σ 3 v2_2) h)
theorem e_X11_uneven_0 : kk_d cX11_uneven 0 (.iconst 0) 1 1 := ⟨by decide +kernel, rfl⟩
theorem e_X11_uneven_1 : kk_d cX11_uneven 1 (.istore_n 1) 1 2 := ⟨by decide +kernel, rfl⟩
theorem e_X11_uneven_2 : kk_d cX11_uneven 2 (.bipush 21) 2 4 := ⟨by decide +kernel, rfl⟩
theorem e_X11_uneven_4 : kk_d cX11_uneven 4 (.istore_n 2) 1 5 := ⟨by decide +kernel, rfl⟩
theorem e_X11_uneven_5 : kk_d cX11_uneven 5 (.iconst 0) 1 6 := ⟨by decide +kernel, rfl⟩
theorem e_X11_uneven_6 : kk_d cX11_uneven 6 (.istore_n 3) 1 7 := ⟨by decide +kernel, rfl⟩
theorem e_X11_uneven_7 : kk_d cX11_uneven 7 (.iload_n 3) 1 8 := ⟨by decide +kernel, rfl⟩
theorem e_X11_uneven_8 : kk_d cX11_uneven 8 (.aload_n 0) 1 9 := ⟨by decide +kernel, rfl⟩
theorem e_X11_uneven_9 : kk_d cX11_uneven 9 (.invokevirtual 198) 3 12 := ⟨by decide +kernel, rfl⟩
theorem e_X11_uneven_12 : kk_dj cX11_uneven 12 (.if_icmp .gt 46) 3 (46) 15 58 := ⟨by decide +kernel, rfl, by decide⟩
theorem e_X11_uneven_58 : kk_d cX11_uneven 58 (.iload_n 1) 1 59 := ⟨by decide +kernel, rfl⟩
theorem e_X11_uneven_59 : kk_dj cX11_uneven 59 (.ifCond .ne 7) 3 (7) 62 66 := ⟨by decide +kernel, rfl, by decide⟩
theorem e_X11_uneven_69 : kk_d cX11_uneven 69 .ireturn 1 70 := ⟨by decide +kernel, rfl⟩
theorem e_X11_uneven_66 : kk_d cX11_uneven 66 (.iload_n 1) 1 67 := ⟨by decide +kernel, rfl⟩
theorem e_X11_uneven_67 : kk_d cX11_uneven 67 (.iload_n 2) 1 68 := ⟨by decide +kernel, rfl⟩
theorem e_X11_uneven_68 : kk_d cX11_uneven 68 .isub 1 69 := ⟨by decide +kernel, rfl⟩
theorem e_X11_uneven_62 : kk_d cX11_uneven 62 (.iconst 0) 1 63 := ⟨by decide +kernel, rfl⟩
theorem e_X11_uneven_63 : kk_dj cX11_uneven 63 (.goto 6) 3 (6) 66 69 := ⟨by decide +kernel, rfl, by decide⟩
theorem e_X11_uneven_15 : kk_d cX11_uneven 15 (.aload_n 0) 1 16 := ⟨by decide +kernel, rfl⟩
theorem e_X11_uneven_16 : kk_d cX11_uneven 16 (.aload_n 0) 1 17 := ⟨by decide +kernel, rfl⟩
theorem e_X11_uneven_17 : kk_d cX11_uneven 17 (.invokevirtual 120) 3 20 := ⟨by decide +kernel, rfl⟩
theorem e_X11_uneven_20 : kk_d cX11_uneven 20 (.iload_n 3) 1 21 := ⟨by decide +kernel, rfl⟩
theorem e_X11_uneven_21 : kk_d cX11_uneven 21 (.invokevirtual 163) 3 24 := ⟨by decide +kernel, rfl⟩
theorem e_X11_uneven_24 : kk_d cX11_uneven 24 (.istore 4) 2 26 := ⟨by decide +kernel, rfl⟩
theorem e_X11_uneven_26 : kk_d cX11_uneven 26 (.iload 4) 2 28 := ⟨by decide +kernel, rfl⟩
theorem e_X11_uneven_28 : kk_dj cX11_uneven 28 (.ifCond .ne 6) 3 (6) 31 34 := ⟨by decide +kernel, rfl, by decide⟩
theorem e_X11_uneven_52 : kk_d cX11_uneven 52 (.iinc 3 1) 3 55 := ⟨by decide +kernel, rfl⟩
theorem e_X11_uneven_55 : kk_dj cX11_uneven 55 (.goto (-48)) 3 (-48) 58 7 := ⟨by decide +kernel, rfl, by decide⟩
theorem e_X11_uneven_34 : kk_d cX11_uneven 34 (.iload 4) 2 36 := ⟨by decide +kernel, rfl⟩
theorem e_X11_uneven_36 : kk_d cX11_uneven 36 (.iload_n 1) 1 37 := ⟨by decide +kernel, rfl⟩
theorem e_X11_uneven_37 : kk_dj cX11_uneven 37 (.if_icmp .le 6) 3 (6) 40 43 := ⟨by decide +kernel, rfl, by decide⟩
theorem e_X11_uneven_43 : kk_d cX11_uneven 43 (.iload 4) 2 45 := ⟨by decide +kernel, rfl⟩
theorem e_X11_uneven_45 : kk_d cX11_uneven 45 (.iload_n 2) 1 46 := ⟨by decide +kernel, rfl⟩
theorem e_X11_uneven_46 : kk_dj cX11_uneven 46 (.if_icmp .ge 6) 3 (6) 49 52 := ⟨by decide +kernel, rfl, by decide⟩
theorem e_X11_uneven_49 : kk_d cX11_uneven 49 (.iload 4) 2 51 := ⟨by decide +kernel, rfl⟩
theorem e_X11_uneven_51 : kk_d cX11_uneven 51 (.istore_n 2) 1 52 := ⟨by decide +kernel, rfl⟩
theorem e_X11_uneven_40 : kk_d cX11_uneven 40 (.iload 4) 2 42 := ⟨by decide +kernel, rfl⟩
theorem e_X11_uneven_42 : kk_d cX11_uneven 42 (.istore_n 1) 1 43 := ⟨by decide +kernel, rfl⟩
theorem e_X11_uneven_31 : kk_dj cX11_uneven 31 (.goto 21) 3 (21) 34 52 := ⟨by decide +kernel, rfl, by decide⟩
set_option maxRecDepth 4000 in
theorem s_X11_uneven (Z : kk_Z) (σ : kk_St) (Q : Int32 → Prop) (h : f_X11_uneven σ Q) : kk_M Z sh_M yX11_uneven cX11_uneven 5 (some .int) (kk_R 4) [.ref (Z.2.1 0)] σ (kk_Qi Z sh_M (fun r σ' => σ' = σ ∧ Q r)) := by
  unfold f_X11_uneven at h
  refine kk_met (own := RX11) (by decide) rfl (Nat.le_of_ble_eq_true rfl) rfl ?_
  refine kk_iconst ic_0 e_X11_uneven_0 ?_
  refine kk_istore_n (lv' := [(1, .int (0 : Int32)), (0, .ref (Z.2.1 0))]) e_X11_uneven_1 rfl (by decide) rfl ?_
  refine kk_bipush bp_21 e_X11_uneven_2 ?_
  refine kk_istore_n (lv' := [(2, .int (21 : Int32)), (1, .int (0 : Int32)), (0, .ref (Z.2.1 0))]) e_X11_uneven_4 rfl (by decide) rfl ?_
  refine kk_iconst ic_0 e_X11_uneven_5 ?_
  refine kk_istore_n (lv' := [(3, .int (0 : Int32)), (2, .int (21 : Int32)), (1, .int (0 : Int32)), (0, .ref (Z.2.1 0))]) e_X11_uneven_6 rfl (by decide) rfl ?_
  refine kk_sub [3, 2, 1, 0] rfl ?_
  refine kk_lpW3 (P := fun (v1_1 : Int32) (v2_2 : Int32) (v3_3 : Int32) => KK Z sh_M RX11 cX11_uneven 5 (some .int) (kk_R 4) (kk_Qi Z sh_M (fun r σ' => σ' = σ ∧ Q r)) 7 [(0, .ref (Z.2.1 0)), (1, .int v1_1), (2, .int v2_2), (3, .int v3_3)] [] σ) ?_ h
  intro rec_4 hrec_4 v1_1 v2_2 v3_3 h
  refine kk_iload_n 3 rfl e_X11_uneven_7 ?_
  refine kk_aload_n 0 rfl e_X11_uneven_8 ?_
  refine kk_callVip (As := []) (rest := [.int v3_3]) e_X11_uneven_9 ml_X11_198 ⟨_, _, _, _, rfl, rfl⟩ rfl (kk_fitR (by decide) (by decide)) (Nat.le_of_ble_eq_true rfl) rfl (s_X11_greatestUsed Z σ _ h) (fun r_5 h => ?_)
  refine kk_icmp_gt e_X11_uneven_12 (fun c_19 => ?_) (fun c_19 => ?_)
  · replace h := h.1 c_19
    refine kk_iload_n 1 rfl e_X11_uneven_58 ?_
    refine kk_jW1 (P := fun (t_6 : Int32) => KK Z sh_M RX11 cX11_uneven 5 (some .int) (kk_R 4) (kk_Qi Z sh_M (fun r σ' => σ' = σ ∧ Q r)) 69 [] [.int t_6] σ) h ?_ ?_
    · intro t_6 h
      exact kk_iret e_X11_uneven_69 ⟨rfl, h⟩
    · intro J_7 hJ_7 h
      refine kk_if_ne e_X11_uneven_59 (fun c_8 => ?_) (fun c_8 => ?_)
      · replace h := h.1 c_8
        refine kk_iload_n 1 rfl e_X11_uneven_66 ?_
        refine kk_iload_n 2 rfl e_X11_uneven_67 ?_
        refine kk_isub e_X11_uneven_68 ?_
        exact kk_sub [] rfl (hJ_7 (v1_1 - v2_2) h)
      · replace h := h.2 c_8
        refine kk_iconst ic_0 e_X11_uneven_62 ?_
        refine kk_goto e_X11_uneven_63 ?_
        exact kk_sub [] rfl (hJ_7 (0 : Int32) h)
  · replace h := h.2 c_19
    refine kk_aload_n 0 rfl e_X11_uneven_15 ?_
    refine kk_aload_n 0 rfl e_X11_uneven_16 ?_
    refine kk_callVip (As := []) (rest := [.ref (Z.2.1 0)]) e_X11_uneven_17 ml_X11_120 ⟨_, _, _, _, rfl, rfl⟩ rfl (kk_fitR (by decide) (by decide)) (Nat.le_of_ble_eq_true rfl) rfl (s_X11_allLines Z σ _ h) (fun r_9 h => ?_)
    refine kk_iload_n 3 rfl e_X11_uneven_20 ?_
    refine kk_callVip (As := [.int r_9, .int v3_3]) (rest := []) e_X11_uneven_21 ml_X11_163 ⟨_, _, _, _, rfl, rfl⟩ rfl (kk_fitR (by decide) (by decide)) (Nat.le_of_ble_eq_true rfl) rfl (s_X11_manyWith Z r_9 v3_3 σ _ h) (fun r_10 h => ?_)
    refine kk_istore (lv' := [(4, .int r_10), (0, .ref (Z.2.1 0)), (1, .int v1_1), (2, .int v2_2), (3, .int v3_3)]) e_X11_uneven_24 (by decide) rfl ?_
    refine kk_iload 0 rfl e_X11_uneven_26 ?_
    refine kk_jW2 (P := fun (v1_11 : Int32) (v2_12 : Int32) => KK Z sh_M RX11 cX11_uneven 5 (some .int) (kk_R 4) (kk_Qi Z sh_M (fun r σ' => σ' = σ ∧ Q r)) 52 [(0, .ref (Z.2.1 0)), (1, .int v1_11), (2, .int v2_12), (3, .int v3_3)] [] σ) h ?_ ?_
    · intro v1_11 v2_12 h
      refine kk_iinc (lv' := [(3, .int (v3_3 + (1 : Int32))), (0, .ref (Z.2.1 0)), (1, .int v1_11), (2, .int v2_12)]) e_X11_uneven_52 (j := 3) rfl (ii_1 v3_3) (by decide) rfl ?_
      refine kk_goto e_X11_uneven_55 ?_
      exact kk_sub [1, 2, 3, 0] rfl (hrec_4 v1_11 v2_12 (v3_3 + (1 : Int32)) h)
    · intro J_13 hJ_13 h
      refine kk_if_ne e_X11_uneven_28 (fun c_18 => ?_) (fun c_18 => ?_)
      · replace h := h.1 c_18
        refine kk_iload 0 rfl e_X11_uneven_34 ?_
        refine kk_iload_n 2 rfl e_X11_uneven_36 ?_
        refine kk_jW1 (P := fun (v1_14 : Int32) => KK Z sh_M RX11 cX11_uneven 5 (some .int) (kk_R 4) (kk_Qi Z sh_M (fun r σ' => σ' = σ ∧ Q r)) 43 [(0, .ref (Z.2.1 0)), (1, .int v1_14), (2, .int v2_2), (3, .int v3_3), (4, .int r_10)] [] σ) h ?_ ?_
        · intro v1_14 h
          refine kk_iload 4 rfl e_X11_uneven_43 ?_
          refine kk_iload_n 2 rfl e_X11_uneven_45 ?_
          refine kk_icmp_ge e_X11_uneven_46 (fun c_16 => ?_) (fun c_16 => ?_)
          · replace h := h.1 c_16
            exact kk_sub [0, 1, 2, 3] rfl (hJ_13 v1_14 v2_2 h)
          · replace h := h.2 c_16
            refine kk_iload 4 rfl e_X11_uneven_49 ?_
            refine kk_istore_n (lv' := [(2, .int r_10), (0, .ref (Z.2.1 0)), (1, .int v1_14), (3, .int v3_3), (4, .int r_10)]) e_X11_uneven_51 rfl (by decide) rfl ?_
            exact kk_sub [1, 2, 0, 3] rfl (hJ_13 v1_14 r_10 h)
        · intro J_15 hJ_15 h
          refine kk_icmp_le e_X11_uneven_37 (fun c_17 => ?_) (fun c_17 => ?_)
          · replace h := h.1 c_17
            exact kk_sub [1, 2, 3, 4, 0] rfl (hJ_15 v1_1 h)
          · replace h := h.2 c_17
            refine kk_iload 0 rfl e_X11_uneven_40 ?_
            refine kk_istore_n (lv' := [(1, .int r_10), (4, .int r_10), (0, .ref (Z.2.1 0)), (2, .int v2_2), (3, .int v3_3)]) e_X11_uneven_42 rfl (by decide) rfl ?_
            exact kk_sub [2, 0, 3, 4, 1] rfl (hJ_15 r_10 h)
      · replace h := h.2 c_18
        refine kk_goto e_X11_uneven_31 ?_
        exact kk_sub [1, 2, 3, 4] rfl (hJ_13 v1_1 v2_2 h)
theorem e_X11_usedColours_0 : kk_d cX11_usedColours 0 (.iconst 0) 1 1 := ⟨by decide +kernel, rfl⟩
theorem e_X11_usedColours_1 : kk_d cX11_usedColours 1 (.istore_n 1) 1 2 := ⟨by decide +kernel, rfl⟩
theorem e_X11_usedColours_2 : kk_d cX11_usedColours 2 (.iconst 0) 1 3 := ⟨by decide +kernel, rfl⟩
theorem e_X11_usedColours_3 : kk_d cX11_usedColours 3 (.istore_n 2) 1 4 := ⟨by decide +kernel, rfl⟩
theorem e_X11_usedColours_4 : kk_d cX11_usedColours 4 (.iload_n 2) 1 5 := ⟨by decide +kernel, rfl⟩
theorem e_X11_usedColours_5 : kk_d cX11_usedColours 5 (.aload_n 0) 1 6 := ⟨by decide +kernel, rfl⟩
theorem e_X11_usedColours_6 : kk_d cX11_usedColours 6 (.invokevirtual 198) 3 9 := ⟨by decide +kernel, rfl⟩
theorem e_X11_usedColours_9 : kk_dj cX11_usedColours 9 (.if_icmp .gt 24) 3 (24) 12 33 := ⟨by decide +kernel, rfl, by decide⟩
theorem e_X11_usedColours_33 : kk_d cX11_usedColours 33 (.iload_n 1) 1 34 := ⟨by decide +kernel, rfl⟩
theorem e_X11_usedColours_34 : kk_d cX11_usedColours 34 .ireturn 1 35 := ⟨by decide +kernel, rfl⟩
theorem e_X11_usedColours_12 : kk_d cX11_usedColours 12 (.aload_n 0) 1 13 := ⟨by decide +kernel, rfl⟩
theorem e_X11_usedColours_13 : kk_d cX11_usedColours 13 (.aload_n 0) 1 14 := ⟨by decide +kernel, rfl⟩
theorem e_X11_usedColours_14 : kk_d cX11_usedColours 14 (.invokevirtual 120) 3 17 := ⟨by decide +kernel, rfl⟩
theorem e_X11_usedColours_17 : kk_d cX11_usedColours 17 (.iload_n 2) 1 18 := ⟨by decide +kernel, rfl⟩
theorem e_X11_usedColours_18 : kk_d cX11_usedColours 18 (.invokevirtual 163) 3 21 := ⟨by decide +kernel, rfl⟩
theorem e_X11_usedColours_21 : kk_dj cX11_usedColours 21 (.ifCond .le 6) 3 (6) 24 27 := ⟨by decide +kernel, rfl, by decide⟩
theorem e_X11_usedColours_27 : kk_d cX11_usedColours 27 (.iinc 2 1) 3 30 := ⟨by decide +kernel, rfl⟩
theorem e_X11_usedColours_30 : kk_dj cX11_usedColours 30 (.goto (-26)) 3 (-26) 33 4 := ⟨by decide +kernel, rfl, by decide⟩
theorem e_X11_usedColours_24 : kk_d cX11_usedColours 24 (.iinc 1 1) 3 27 := ⟨by decide +kernel, rfl⟩
set_option maxRecDepth 4000 in
theorem s_X11_usedColours (Z : kk_Z) (σ : kk_St) (Q : Int32 → Prop) (h : f_X11_usedColours σ Q) : kk_M Z sh_M yX11_usedColours cX11_usedColours 3 (some .int) (kk_R 4) [.ref (Z.2.1 0)] σ (kk_Qi Z sh_M (fun r σ' => σ' = σ ∧ Q r)) := by
  unfold f_X11_usedColours at h
  refine kk_met (own := RX11) (by decide) rfl (Nat.le_of_ble_eq_true rfl) rfl ?_
  refine kk_iconst ic_0 e_X11_usedColours_0 ?_
  refine kk_istore_n (lv' := [(1, .int (0 : Int32)), (0, .ref (Z.2.1 0))]) e_X11_usedColours_1 rfl (by decide) rfl ?_
  refine kk_iconst ic_0 e_X11_usedColours_2 ?_
  refine kk_istore_n (lv' := [(2, .int (0 : Int32)), (1, .int (0 : Int32)), (0, .ref (Z.2.1 0))]) e_X11_usedColours_3 rfl (by decide) rfl ?_
  refine kk_sub [2, 1, 0] rfl ?_
  refine kk_lpW2 (P := fun (v1_1 : Int32) (v2_2 : Int32) => KK Z sh_M RX11 cX11_usedColours 3 (some .int) (kk_R 4) (kk_Qi Z sh_M (fun r σ' => σ' = σ ∧ Q r)) 4 [(0, .ref (Z.2.1 0)), (1, .int v1_1), (2, .int v2_2)] [] σ) ?_ h
  intro rec_3 hrec_3 v1_1 v2_2 h
  refine kk_iload_n 2 rfl e_X11_usedColours_4 ?_
  refine kk_aload_n 0 rfl e_X11_usedColours_5 ?_
  refine kk_callVip (As := []) (rest := [.int v2_2]) e_X11_usedColours_6 ml_X11_198 ⟨_, _, _, _, rfl, rfl⟩ rfl (kk_fitR (by decide) (by decide)) (Nat.le_of_ble_eq_true rfl) rfl (s_X11_greatestUsed Z σ _ h) (fun r_4 h => ?_)
  refine kk_icmp_gt e_X11_usedColours_9 (fun c_10 => ?_) (fun c_10 => ?_)
  · replace h := h.1 c_10
    refine kk_iload_n 1 rfl e_X11_usedColours_33 ?_
    exact kk_iret e_X11_usedColours_34 ⟨rfl, h⟩
  · replace h := h.2 c_10
    refine kk_aload_n 0 rfl e_X11_usedColours_12 ?_
    refine kk_aload_n 0 rfl e_X11_usedColours_13 ?_
    refine kk_callVip (As := []) (rest := [.ref (Z.2.1 0)]) e_X11_usedColours_14 ml_X11_120 ⟨_, _, _, _, rfl, rfl⟩ rfl (kk_fitR (by decide) (by decide)) (Nat.le_of_ble_eq_true rfl) rfl (s_X11_allLines Z σ _ h) (fun r_5 h => ?_)
    refine kk_iload_n 2 rfl e_X11_usedColours_17 ?_
    refine kk_callVip (As := [.int r_5, .int v2_2]) (rest := []) e_X11_usedColours_18 ml_X11_163 ⟨_, _, _, _, rfl, rfl⟩ rfl (kk_fitR (by decide) (by decide)) (Nat.le_of_ble_eq_true rfl) rfl (s_X11_manyWith Z r_5 v2_2 σ _ h) (fun r_6 h => ?_)
    refine kk_jW1 (P := fun (v1_7 : Int32) => KK Z sh_M RX11 cX11_usedColours 3 (some .int) (kk_R 4) (kk_Qi Z sh_M (fun r σ' => σ' = σ ∧ Q r)) 27 [(0, .ref (Z.2.1 0)), (1, .int v1_7), (2, .int v2_2)] [] σ) h ?_ ?_
    · intro v1_7 h
      refine kk_iinc (lv' := [(2, .int (v2_2 + (1 : Int32))), (0, .ref (Z.2.1 0)), (1, .int v1_7)]) e_X11_usedColours_27 (j := 2) rfl (ii_1 v2_2) (by decide) rfl ?_
      refine kk_goto e_X11_usedColours_30 ?_
      exact kk_sub [1, 2, 0] rfl (hrec_3 v1_7 (v2_2 + (1 : Int32)) h)
    · intro J_8 hJ_8 h
      refine kk_if_le e_X11_usedColours_21 (fun c_9 => ?_) (fun c_9 => ?_)
      · replace h := h.1 c_9
        exact kk_sub [0, 1, 2] rfl (hJ_8 v1_1 h)
      · replace h := h.2 c_9
        refine kk_iinc (lv' := [(1, .int (v1_1 + (1 : Int32))), (0, .ref (Z.2.1 0)), (2, .int v2_2)]) e_X11_usedColours_24 (j := 1) rfl (ii_1 v1_1) (by decide) rfl ?_
        exact kk_sub [1, 0, 2] rfl (hJ_8 (v1_1 + (1 : Int32)) h)
theorem e_X11_count_0 : kk_d cX11_count 0 (.iload_n 1) 1 1 := ⟨by decide +kernel, rfl⟩
theorem e_X11_count_1 : decode cX11_count 1 = .ok (.tableswitch 95 0 7 #[47, 52, 57, 62, 67, 72, 77, 90], 47) := by decide +kernel
theorem e_X11_count_48 : kk_d cX11_count 48 (.aload_n 0) 1 49 := ⟨by decide +kernel, rfl⟩
theorem e_X11_count_49 : kk_d cX11_count 49 (.getfield 21) 3 52 := ⟨by decide +kernel, rfl⟩
theorem e_X11_count_52 : kk_d cX11_count 52 .ireturn 1 53 := ⟨by decide +kernel, rfl⟩
theorem e_X11_count_53 : kk_d cX11_count 53 (.aload_n 0) 1 54 := ⟨by decide +kernel, rfl⟩
theorem e_X11_count_54 : kk_d cX11_count 54 (.getfield 96) 3 57 := ⟨by decide +kernel, rfl⟩
theorem e_X11_count_57 : kk_d cX11_count 57 .ireturn 1 58 := ⟨by decide +kernel, rfl⟩
theorem e_X11_count_58 : kk_d cX11_count 58 (.aload_n 0) 1 59 := ⟨by decide +kernel, rfl⟩
theorem e_X11_count_59 : kk_d cX11_count 59 (.invokevirtual 128) 3 62 := ⟨by decide +kernel, rfl⟩
theorem e_X11_count_62 : kk_d cX11_count 62 .ireturn 1 63 := ⟨by decide +kernel, rfl⟩
theorem e_X11_count_63 : kk_d cX11_count 63 (.aload_n 0) 1 64 := ⟨by decide +kernel, rfl⟩
theorem e_X11_count_64 : kk_d cX11_count 64 (.invokevirtual 323) 3 67 := ⟨by decide +kernel, rfl⟩
theorem e_X11_count_67 : kk_d cX11_count 67 .ireturn 1 68 := ⟨by decide +kernel, rfl⟩
theorem e_X11_count_68 : kk_d cX11_count 68 (.aload_n 0) 1 69 := ⟨by decide +kernel, rfl⟩
theorem e_X11_count_69 : kk_d cX11_count 69 (.invokevirtual 326) 3 72 := ⟨by decide +kernel, rfl⟩
theorem e_X11_count_72 : kk_d cX11_count 72 .ireturn 1 73 := ⟨by decide +kernel, rfl⟩
theorem e_X11_count_73 : kk_d cX11_count 73 (.aload_n 0) 1 74 := ⟨by decide +kernel, rfl⟩
theorem e_X11_count_74 : kk_d cX11_count 74 (.invokevirtual 329) 3 77 := ⟨by decide +kernel, rfl⟩
theorem e_X11_count_77 : kk_d cX11_count 77 .ireturn 1 78 := ⟨by decide +kernel, rfl⟩
theorem e_X11_count_78 : kk_d cX11_count 78 (.aload_n 0) 1 79 := ⟨by decide +kernel, rfl⟩
theorem e_X11_count_79 : kk_d cX11_count 79 (.getfield 99) 3 82 := ⟨by decide +kernel, rfl⟩
theorem e_X11_count_82 : kk_dj cX11_count 82 (.ifCond .eq 7) 3 (7) 85 89 := ⟨by decide +kernel, rfl, by decide⟩
theorem e_X11_count_90 : kk_d cX11_count 90 .ireturn 1 91 := ⟨by decide +kernel, rfl⟩
theorem e_X11_count_89 : kk_d cX11_count 89 (.iconst 0) 1 90 := ⟨by decide +kernel, rfl⟩
theorem e_X11_count_85 : kk_d cX11_count 85 (.iconst 1) 1 86 := ⟨by decide +kernel, rfl⟩
theorem e_X11_count_86 : kk_dj cX11_count 86 (.goto 4) 3 (4) 89 90 := ⟨by decide +kernel, rfl, by decide⟩
theorem e_X11_count_91 : kk_d cX11_count 91 (.aload_n 0) 1 92 := ⟨by decide +kernel, rfl⟩
theorem e_X11_count_92 : kk_d cX11_count 92 (.invokevirtual 332) 3 95 := ⟨by decide +kernel, rfl⟩
theorem e_X11_count_95 : kk_d cX11_count 95 .ireturn 1 96 := ⟨by decide +kernel, rfl⟩
theorem e_X11_count_96 : kk_d cX11_count 96 (.iconst (-1)) 1 97 := ⟨by decide +kernel, rfl⟩
theorem e_X11_count_97 : kk_d cX11_count 97 .ireturn 1 98 := ⟨by decide +kernel, rfl⟩
set_option maxRecDepth 4000 in
theorem s_X11_count (Z : kk_Z) (v1 : Int32) (σ : kk_St) (Q : Int32 → Prop) (h : f_X11_count v1 σ Q) : kk_M Z sh_M yX11_count cX11_count 2 (some .int) (kk_R 8) [.ref (Z.2.1 0), .int v1] σ (kk_Qi Z sh_M (fun r σ' => σ' = σ ∧ Q r)) := by
  unfold f_X11_count at h
  refine kk_met (own := RX11) (by decide) rfl (Nat.le_of_ble_eq_true rfl) rfl ?_
  refine kk_iload_n 1 rfl e_X11_count_0 ?_
  rcases kk_swc v1 8 (by decide) with ⟨i, hi, hx⟩ | hx
  · rcases (show i = 0 ∨ i = 1 ∨ i = 2 ∨ i = 3 ∨ i = 4 ∨ i = 5 ∨ i = 6 ∨ i = 7 by omega) with rfl | rfl | rfl | rfl | rfl | rfl | rfl | rfl
    · replace h := h.1 hx
      refine kk_swIn (tgt := 48) e_X11_count_1 0 hx (by decide) (by decide) rfl (by decide) ?_
      refine kk_aload_n 0 rfl e_X11_count_48 ?_
      refine kk_geti e_X11_count_49 fl_X11_21 rfl rfl ?_
      exact kk_iret e_X11_count_52 ⟨rfl, h⟩
    · replace h := h.2.1 hx
      refine kk_swIn (tgt := 53) e_X11_count_1 1 hx (by decide) (by decide) rfl (by decide) ?_
      refine kk_aload_n 0 rfl e_X11_count_53 ?_
      refine kk_geti e_X11_count_54 fl_X11_96 rfl rfl ?_
      exact kk_iret e_X11_count_57 ⟨rfl, h⟩
    · replace h := h.2.2.1 hx
      refine kk_swIn (tgt := 58) e_X11_count_1 2 hx (by decide) (by decide) rfl (by decide) ?_
      refine kk_aload_n 0 rfl e_X11_count_58 ?_
      refine kk_callVip (As := []) (rest := []) e_X11_count_59 ml_X11_128 ⟨_, _, _, _, rfl, rfl⟩ rfl (kk_fitR (by decide) (by decide)) (Nat.le_of_ble_eq_true rfl) rfl (s_X11_degree Z σ _ h) (fun r_1 h => ?_)
      exact kk_iret e_X11_count_62 ⟨rfl, h⟩
    · replace h := h.2.2.2.1 hx
      refine kk_swIn (tgt := 63) e_X11_count_1 3 hx (by decide) (by decide) rfl (by decide) ?_
      refine kk_aload_n 0 rfl e_X11_count_63 ?_
      refine kk_callVip (As := []) (rest := []) e_X11_count_64 ml_X11_323 ⟨_, _, _, _, rfl, rfl⟩ rfl (kk_fitR (by decide) (by decide)) (Nat.le_of_ble_eq_true rfl) rfl (s_X11_bareMany Z σ _ h) (fun r_2 h => ?_)
      exact kk_iret e_X11_count_67 ⟨rfl, h⟩
    · replace h := h.2.2.2.2.1 hx
      refine kk_swIn (tgt := 68) e_X11_count_1 4 hx (by decide) (by decide) rfl (by decide) ?_
      refine kk_aload_n 0 rfl e_X11_count_68 ?_
      refine kk_callVip (As := []) (rest := []) e_X11_count_69 ml_X11_326 ⟨_, _, _, _, rfl, rfl⟩ rfl (kk_fitR (by decide) (by decide)) (Nat.le_of_ble_eq_true rfl) rfl (s_X11_usedColours Z σ _ h) (fun r_3 h => ?_)
      exact kk_iret e_X11_count_72 ⟨rfl, h⟩
    · replace h := h.2.2.2.2.2.1 hx
      refine kk_swIn (tgt := 73) e_X11_count_1 5 hx (by decide) (by decide) rfl (by decide) ?_
      refine kk_aload_n 0 rfl e_X11_count_73 ?_
      refine kk_callVip (As := []) (rest := []) e_X11_count_74 ml_X11_329 ⟨_, _, _, _, rfl, rfl⟩ rfl (kk_fitR (by decide) (by decide)) (Nat.le_of_ble_eq_true rfl) rfl (s_X11_uneven Z σ _ h) (fun r_4 h => ?_)
      exact kk_iret e_X11_count_77 ⟨rfl, h⟩
    · replace h := h.2.2.2.2.2.2.1 hx
      refine kk_swIn (tgt := 78) e_X11_count_1 6 hx (by decide) (by decide) rfl (by decide) ?_
      refine kk_aload_n 0 rfl e_X11_count_78 ?_
      refine kk_geti e_X11_count_79 fl_X11_99 rfl rfl ?_
      refine kk_jW1 (P := fun (t_5 : Int32) => KK Z sh_M RX11 cX11_count 2 (some .int) (kk_R 8) (kk_Qi Z sh_M (fun r σ' => σ' = σ ∧ Q r)) 90 [] [.int t_5] σ) h ?_ ?_
      · intro t_5 h
        exact kk_iret e_X11_count_90 ⟨rfl, h⟩
      · intro J_6 hJ_6 h
        refine kk_if_eq e_X11_count_82 (fun c_7 => ?_) (fun c_7 => ?_)
        · replace h := h.1 c_7
          refine kk_iconst ic_0 e_X11_count_89 ?_
          exact kk_sub [] rfl (hJ_6 (0 : Int32) h)
        · replace h := h.2 c_7
          refine kk_iconst ic_1 e_X11_count_85 ?_
          refine kk_goto e_X11_count_86 ?_
          exact kk_sub [] rfl (hJ_6 (1 : Int32) h)
    · replace h := h.2.2.2.2.2.2.2.1 hx
      refine kk_swIn (tgt := 91) e_X11_count_1 7 hx (by decide) (by decide) rfl (by decide) ?_
      refine kk_aload_n 0 rfl e_X11_count_91 ?_
      refine kk_callVip (As := []) (rest := []) e_X11_count_92 ml_X11_332 ⟨_, _, _, _, rfl, rfl⟩ rfl (kk_fitR (by decide) (by decide)) (Nat.le_of_ble_eq_true rfl) rfl (s_X11_easyMany Z σ _ h) (fun r_8 h => ?_)
      exact kk_iret e_X11_count_95 ⟨rfl, h⟩
  · replace h := h.2.2.2.2.2.2.2.2 (by omega)
    refine kk_swOut (tgt := 96) e_X11_count_1 (by omega) (by decide) ?_
    refine kk_iconst ic_m1 e_X11_count_96 ?_
    exact kk_iret e_X11_count_97 ⟨rfl, h⟩
theorem e_X11_picksFirst_0 : kk_d cX11_picksFirst 0 (.iconst 0) 1 1 := ⟨by decide +kernel, rfl⟩
theorem e_X11_picksFirst_1 : kk_d cX11_picksFirst 1 (.istore_n 2) 1 2 := ⟨by decide +kernel, rfl⟩
theorem e_X11_picksFirst_2 : kk_d cX11_picksFirst 2 (.iload_n 2) 1 3 := ⟨by decide +kernel, rfl⟩
theorem e_X11_picksFirst_3 : kk_d cX11_picksFirst 3 (.bipush 20) 2 5 := ⟨by decide +kernel, rfl⟩
theorem e_X11_picksFirst_5 : kk_dj cX11_picksFirst 5 (.if_icmp .ge 16) 3 (16) 8 21 := ⟨by decide +kernel, rfl, by decide⟩
theorem e_X11_picksFirst_21 : kk_d cX11_picksFirst 21 (.aload_n 0) 1 22 := ⟨by decide +kernel, rfl⟩
theorem e_X11_picksFirst_22 : kk_d cX11_picksFirst 22 (.iload_n 1) 1 23 := ⟨by decide +kernel, rfl⟩
theorem e_X11_picksFirst_23 : kk_d cX11_picksFirst 23 (.invokevirtual 235) 3 26 := ⟨by decide +kernel, rfl⟩
theorem e_X11_picksFirst_26 : kk_dj cX11_picksFirst 26 (.ifCond .ne 5) 3 (5) 29 31 := ⟨by decide +kernel, rfl, by decide⟩
theorem e_X11_picksFirst_31 : kk_d cX11_picksFirst 31 (.iconst 0) 1 32 := ⟨by decide +kernel, rfl⟩
theorem e_X11_picksFirst_32 : kk_d cX11_picksFirst 32 (.istore_n 2) 1 33 := ⟨by decide +kernel, rfl⟩
theorem e_X11_picksFirst_33 : kk_d cX11_picksFirst 33 (.iload_n 2) 1 34 := ⟨by decide +kernel, rfl⟩
theorem e_X11_picksFirst_34 : kk_d cX11_picksFirst 34 (.aload_n 0) 1 35 := ⟨by decide +kernel, rfl⟩
theorem e_X11_picksFirst_35 : kk_d cX11_picksFirst 35 (.getfield 96) 3 38 := ⟨by decide +kernel, rfl⟩
theorem e_X11_picksFirst_38 : kk_dj cX11_picksFirst 38 (.if_icmp .ge 61) 3 (61) 41 99 := ⟨by decide +kernel, rfl, by decide⟩
theorem e_X11_picksFirst_99 : kk_d cX11_picksFirst 99 (.iconst 1) 1 100 := ⟨by decide +kernel, rfl⟩
theorem e_X11_picksFirst_100 : kk_d cX11_picksFirst 100 .ireturn 1 101 := ⟨by decide +kernel, rfl⟩
theorem e_X11_picksFirst_41 : kk_d cX11_picksFirst 41 (.iload_n 1) 1 42 := ⟨by decide +kernel, rfl⟩
theorem e_X11_picksFirst_42 : kk_d cX11_picksFirst 42 (.iload_n 2) 1 43 := ⟨by decide +kernel, rfl⟩
theorem e_X11_picksFirst_43 : kk_d cX11_picksFirst 43 (.invokestatic 11) 3 46 := ⟨by decide +kernel, rfl⟩
theorem e_X11_picksFirst_46 : kk_dj cX11_picksFirst 46 (.ifCond .ne 6) 3 (6) 49 52 := ⟨by decide +kernel, rfl, by decide⟩
theorem e_X11_picksFirst_93 : kk_d cX11_picksFirst 93 (.iinc 2 1) 3 96 := ⟨by decide +kernel, rfl⟩
theorem e_X11_picksFirst_96 : kk_dj cX11_picksFirst 96 (.goto (-63)) 3 (-63) 99 33 := ⟨by decide +kernel, rfl, by decide⟩
theorem e_X11_picksFirst_52 : kk_d cX11_picksFirst 52 (.aload_n 0) 1 53 := ⟨by decide +kernel, rfl⟩
theorem e_X11_picksFirst_53 : kk_d cX11_picksFirst 53 (.getfield 52) 3 56 := ⟨by decide +kernel, rfl⟩
theorem e_X11_picksFirst_56 : kk_d cX11_picksFirst 56 (.iload_n 2) 1 57 := ⟨by decide +kernel, rfl⟩
theorem e_X11_picksFirst_57 : kk_d cX11_picksFirst 57 .iaload 1 58 := ⟨by decide +kernel, rfl⟩
theorem e_X11_picksFirst_58 : kk_d cX11_picksFirst 58 (.istore_n 3) 1 59 := ⟨by decide +kernel, rfl⟩
theorem e_X11_picksFirst_59 : kk_d cX11_picksFirst 59 (.iconst 0) 1 60 := ⟨by decide +kernel, rfl⟩
theorem e_X11_picksFirst_60 : kk_d cX11_picksFirst 60 (.istore 4) 2 62 := ⟨by decide +kernel, rfl⟩
theorem e_X11_picksFirst_62 : kk_d cX11_picksFirst 62 (.iload 4) 2 64 := ⟨by decide +kernel, rfl⟩
theorem e_X11_picksFirst_64 : kk_dj cX11_picksFirst 64 (.ifCond .ne 29) 3 (29) 67 93 := ⟨by decide +kernel, rfl, by decide⟩
theorem e_X11_picksFirst_67 : kk_d cX11_picksFirst 67 (.aload_n 0) 1 68 := ⟨by decide +kernel, rfl⟩
theorem e_X11_picksFirst_68 : kk_d cX11_picksFirst 68 (.getfield 55) 3 71 := ⟨by decide +kernel, rfl⟩
theorem e_X11_picksFirst_71 : kk_d cX11_picksFirst 71 (.iload_n 2) 1 72 := ⟨by decide +kernel, rfl⟩
theorem e_X11_picksFirst_72 : kk_d cX11_picksFirst 72 (.iload_n 3) 1 73 := ⟨by decide +kernel, rfl⟩
theorem e_X11_picksFirst_73 : kk_d cX11_picksFirst 73 (.invokestatic 166) 3 76 := ⟨by decide +kernel, rfl⟩
theorem e_X11_picksFirst_76 : kk_d cX11_picksFirst 76 .iastore 1 77 := ⟨by decide +kernel, rfl⟩
theorem e_X11_picksFirst_77 : kk_d cX11_picksFirst 77 (.iload_n 3) 1 78 := ⟨by decide +kernel, rfl⟩
theorem e_X11_picksFirst_78 : kk_d cX11_picksFirst 78 (.iload_n 3) 1 79 := ⟨by decide +kernel, rfl⟩
theorem e_X11_picksFirst_79 : kk_d cX11_picksFirst 79 (.iconst 1) 1 80 := ⟨by decide +kernel, rfl⟩
theorem e_X11_picksFirst_80 : kk_d cX11_picksFirst 80 .isub 1 81 := ⟨by decide +kernel, rfl⟩
theorem e_X11_picksFirst_81 : kk_d cX11_picksFirst 81 .iand 1 82 := ⟨by decide +kernel, rfl⟩
theorem e_X11_picksFirst_82 : kk_d cX11_picksFirst 82 (.istore_n 3) 1 83 := ⟨by decide +kernel, rfl⟩
theorem e_X11_picksFirst_83 : kk_d cX11_picksFirst 83 (.aload_n 0) 1 84 := ⟨by decide +kernel, rfl⟩
theorem e_X11_picksFirst_84 : kk_d cX11_picksFirst 84 (.iload_n 1) 1 85 := ⟨by decide +kernel, rfl⟩
theorem e_X11_picksFirst_85 : kk_d cX11_picksFirst 85 (.invokevirtual 235) 3 88 := ⟨by decide +kernel, rfl⟩
theorem e_X11_picksFirst_88 : kk_d cX11_picksFirst 88 (.istore 4) 2 90 := ⟨by decide +kernel, rfl⟩
theorem e_X11_picksFirst_90 : kk_dj cX11_picksFirst 90 (.goto (-28)) 3 (-28) 93 62 := ⟨by decide +kernel, rfl, by decide⟩
theorem e_X11_picksFirst_49 : kk_dj cX11_picksFirst 49 (.goto 44) 3 (44) 52 93 := ⟨by decide +kernel, rfl, by decide⟩
theorem e_X11_picksFirst_29 : kk_d cX11_picksFirst 29 (.iconst 0) 1 30 := ⟨by decide +kernel, rfl⟩
theorem e_X11_picksFirst_30 : kk_d cX11_picksFirst 30 .ireturn 1 31 := ⟨by decide +kernel, rfl⟩
theorem e_X11_picksFirst_8 : kk_d cX11_picksFirst 8 (.aload_n 0) 1 9 := ⟨by decide +kernel, rfl⟩
theorem e_X11_picksFirst_9 : kk_d cX11_picksFirst 9 (.getfield 55) 3 12 := ⟨by decide +kernel, rfl⟩
theorem e_X11_picksFirst_12 : kk_d cX11_picksFirst 12 (.iload_n 2) 1 13 := ⟨by decide +kernel, rfl⟩
theorem e_X11_picksFirst_13 : kk_d cX11_picksFirst 13 (.iconst (-1)) 1 14 := ⟨by decide +kernel, rfl⟩
theorem e_X11_picksFirst_14 : kk_d cX11_picksFirst 14 .iastore 1 15 := ⟨by decide +kernel, rfl⟩
theorem e_X11_picksFirst_15 : kk_d cX11_picksFirst 15 (.iinc 2 1) 3 18 := ⟨by decide +kernel, rfl⟩
theorem e_X11_picksFirst_18 : kk_dj cX11_picksFirst 18 (.goto (-16)) 3 (-16) 21 2 := ⟨by decide +kernel, rfl, by decide⟩
set_option maxRecDepth 4000 in
theorem s_X11_picksFirst (Z : kk_Z) (v1 : Int32) (σ : kk_St) (Q : Int32 → kk_St → Prop) (h : f_X11_picksFirst v1 σ Q) : kk_M Z sh_M yX11_picksFirst cX11_picksFirst 5 (some .boolean) (kk_R 6) [.ref (Z.2.1 0), .int v1] σ (kk_Qi Z sh_M Q) := by
  unfold f_X11_picksFirst at h
  refine kk_met (own := RX11) (by decide) rfl (Nat.le_of_ble_eq_true rfl) rfl ?_
  refine kk_iconst ic_0 e_X11_picksFirst_0 ?_
  refine kk_istore_n (lv' := [(2, .int (0 : Int32)), (0, .ref (Z.2.1 0)), (1, .int v1)]) e_X11_picksFirst_1 rfl (by decide) rfl ?_
  refine kk_sub [1, 2, 0] rfl ?_
  refine kk_lpW2 (P := fun (v2_1 : Int32) (σ_2 : kk_St) => KK Z sh_M RX11 cX11_picksFirst 5 (some .boolean) (kk_R 6) (kk_Qi Z sh_M Q) 2 [(0, .ref (Z.2.1 0)), (1, .int v1), (2, .int v2_1)] [] σ_2) ?_ h
  intro rec_3 hrec_3 v2_1 σ_2 h
  refine kk_iload_n 2 rfl e_X11_picksFirst_2 ?_
  refine kk_bipush bp_20 e_X11_picksFirst_3 ?_
  refine kk_icmp_ge e_X11_picksFirst_5 (fun c_26 => ?_) (fun c_26 => ?_)
  · replace h := h.1 c_26
    refine kk_aload_n 0 rfl e_X11_picksFirst_21 ?_
    refine kk_iload_n 1 rfl e_X11_picksFirst_22 ?_
    refine kk_callVi (As := [.int v1]) (rest := []) e_X11_picksFirst_23 ml_X11_235 ⟨_, _, _, _, rfl, rfl⟩ rfl (kk_fitR (by decide) (by decide)) (Nat.le_of_ble_eq_true rfl) rfl (s_X11_canGoOn Z v1 σ_2 _ h) (fun r_4 σ_5 h => ?_)
    refine kk_if_ne e_X11_picksFirst_26 (fun c_24 => ?_) (fun c_24 => ?_)
    · replace h := h.1 c_24
      refine kk_iconst ic_0 e_X11_picksFirst_31 ?_
      refine kk_istore_n (lv' := [(2, .int (0 : Int32)), (0, .ref (Z.2.1 0)), (1, .int v1)]) e_X11_picksFirst_32 rfl (by decide) rfl ?_
      refine kk_sub [1, 2, 0] rfl ?_
      refine kk_lpW2 (P := fun (v2_6 : Int32) (σ_7 : kk_St) => KK Z sh_M RX11 cX11_picksFirst 5 (some .boolean) (kk_R 6) (kk_Qi Z sh_M Q) 33 [(0, .ref (Z.2.1 0)), (1, .int v1), (2, .int v2_6)] [] σ_7) ?_ h
      intro rec_8 hrec_8 v2_6 σ_7 h
      refine kk_iload_n 2 rfl e_X11_picksFirst_33 ?_
      refine kk_aload_n 0 rfl e_X11_picksFirst_34 ?_
      refine kk_geti e_X11_picksFirst_35 fl_X11_96 rfl rfl ?_
      refine kk_icmp_ge e_X11_picksFirst_38 (fun c_23 => ?_) (fun c_23 => ?_)
      · replace h := h.1 c_23
        refine kk_iconst ic_1 e_X11_picksFirst_99 ?_
        exact kk_zret e_X11_picksFirst_100 (Or.inr rfl) h
      · replace h := h.2 c_23
        refine kk_iload_n 1 rfl e_X11_picksFirst_41 ?_
        refine kk_iload_n 2 rfl e_X11_picksFirst_42 ?_
        refine kk_callSip (As := [.int v1, .int v2_6]) (rest := []) e_X11_picksFirst_43 ml_X11_11 rfl (kk_fitR (by decide) (by decide)) (Nat.le_of_ble_eq_true rfl) rfl (s_X11_has Z v1 v2_6 σ_7 _ h) (fun r_9 h => ?_)
        refine kk_jW1 (P := fun (σ_10 : kk_St) => KK Z sh_M RX11 cX11_picksFirst 5 (some .boolean) (kk_R 6) (kk_Qi Z sh_M Q) 93 [(0, .ref (Z.2.1 0)), (1, .int v1), (2, .int v2_6)] [] σ_10) h ?_ ?_
        · intro σ_10 h
          refine kk_iinc (lv' := [(2, .int (v2_6 + (1 : Int32))), (0, .ref (Z.2.1 0)), (1, .int v1)]) e_X11_picksFirst_93 (j := 2) rfl (ii_1 v2_6) (by decide) rfl ?_
          refine kk_goto e_X11_picksFirst_96 ?_
          exact kk_sub [1, 2, 0] rfl (hrec_8 (v2_6 + (1 : Int32)) σ_10 h)
        · intro J_11 hJ_11 h
          refine kk_if_ne e_X11_picksFirst_46 (fun c_22 => ?_) (fun c_22 => ?_)
          · replace h := h.1 c_22
            refine kk_aload_n 0 rfl e_X11_picksFirst_52 ?_
            refine kk_getr e_X11_picksFirst_53 fl_X11_52 rfl rfl ?_
            refine kk_iload_n 2 rfl e_X11_picksFirst_56 ?_
            refine kk_iald e_X11_picksFirst_57 rfl h.1 ?_
            replace h := h.2
            refine kk_istore_n (lv' := [(3, .int (kk_rd σ_7 10 v2_6)), (0, .ref (Z.2.1 0)), (1, .int v1), (2, .int v2_6)]) e_X11_picksFirst_58 rfl (by decide) rfl ?_
            refine kk_iconst ic_0 e_X11_picksFirst_59 ?_
            refine kk_istore (lv' := [(4, .int (0 : Int32)), (3, .int (kk_rd σ_7 10 v2_6)), (0, .ref (Z.2.1 0)), (1, .int v1), (2, .int v2_6)]) e_X11_picksFirst_60 (by decide) rfl ?_
            refine kk_sub [2, 3, 4, 1, 0] rfl ?_
            refine kk_lpW3 (P := fun (v3_12 : Int32) (v4_13 : Int32) (σ_14 : kk_St) => KK Z sh_M RX11 cX11_picksFirst 5 (some .boolean) (kk_R 6) (kk_Qi Z sh_M Q) 62 [(0, .ref (Z.2.1 0)), (1, .int v1), (2, .int v2_6), (3, .int v3_12), (4, .int v4_13)] [] σ_14) ?_ h
            intro rec_15 hrec_15 v3_12 v4_13 σ_14 h
            refine kk_iload 4 rfl e_X11_picksFirst_62 ?_
            refine kk_if_ne e_X11_picksFirst_64 (fun c_21 => ?_) (fun c_21 => ?_)
            · replace h := h.1 c_21
              exact kk_sub [0, 1, 2] rfl (hJ_11 σ_14 h)
            · replace h := h.2 c_21
              refine kk_aload_n 0 rfl e_X11_picksFirst_67 ?_
              refine kk_getr e_X11_picksFirst_68 fl_X11_55 rfl rfl ?_
              refine kk_iload_n 2 rfl e_X11_picksFirst_71 ?_
              refine kk_iload_n 3 rfl e_X11_picksFirst_72 ?_
              refine kk_callSip (As := [.int v3_12]) (rest := [.int v2_6, .ref (Z.2.1 11)]) e_X11_picksFirst_73 ml_X11_166 rfl (kk_fitR (by decide) (by decide)) (Nat.le_of_ble_eq_true rfl) rfl (s_X11_lowestOf Z v3_12 σ_14 _ h) (fun r_16 h => ?_)
              refine kk_iast e_X11_picksFirst_76 rfl h.1 ?_
              replace h := h.2
              refine kk_tops (fun σ_17 eσ_17 => ?_)
              replace h := h σ_17 eσ_17
              refine kk_iload_n 3 rfl e_X11_picksFirst_77 ?_
              refine kk_iload_n 3 rfl e_X11_picksFirst_78 ?_
              refine kk_iconst ic_1 e_X11_picksFirst_79 ?_
              refine kk_isub e_X11_picksFirst_80 ?_
              refine kk_iand e_X11_picksFirst_81 ?_
              refine kk_topi (fun v3_18 ev3_18 => ?_)
              replace h := h v3_18 ev3_18
              refine kk_istore_n (lv' := [(3, .int v3_18), (0, .ref (Z.2.1 0)), (1, .int v1), (2, .int v2_6), (4, .int v4_13)]) e_X11_picksFirst_82 rfl (by decide) rfl ?_
              refine kk_aload_n 1 rfl e_X11_picksFirst_83 ?_
              refine kk_iload_n 2 rfl e_X11_picksFirst_84 ?_
              refine kk_callVi (As := [.int v1]) (rest := []) e_X11_picksFirst_85 ml_X11_235 ⟨_, _, _, _, rfl, rfl⟩ rfl (kk_fitR (by decide) (by decide)) (Nat.le_of_ble_eq_true rfl) rfl (s_X11_canGoOn Z v1 σ_17 _ h) (fun r_19 σ_20 h => ?_)
              refine kk_istore (lv' := [(4, .int r_19), (3, .int v3_18), (0, .ref (Z.2.1 0)), (1, .int v1), (2, .int v2_6)]) e_X11_picksFirst_88 (by decide) rfl ?_
              refine kk_goto e_X11_picksFirst_90 ?_
              exact kk_sub [2, 3, 4, 1, 0] rfl (hrec_15 v3_18 r_19 σ_20 h)
          · replace h := h.2 c_22
            refine kk_goto e_X11_picksFirst_49 ?_
            exact kk_sub [0, 1, 2] rfl (hJ_11 σ_7 h)
    · replace h := h.2 c_24
      refine kk_iconst ic_0 e_X11_picksFirst_29 ?_
      exact kk_zret e_X11_picksFirst_30 (Or.inl rfl) h
  · replace h := h.2 c_26
    refine kk_aload_n 0 rfl e_X11_picksFirst_8 ?_
    refine kk_getr e_X11_picksFirst_9 fl_X11_55 rfl rfl ?_
    refine kk_iload_n 2 rfl e_X11_picksFirst_12 ?_
    refine kk_iconst ic_m1 e_X11_picksFirst_13 ?_
    refine kk_iast e_X11_picksFirst_14 rfl h.1 ?_
    replace h := h.2
    refine kk_tops (fun σ_25 eσ_25 => ?_)
    replace h := h σ_25 eσ_25
    refine kk_iinc (lv' := [(2, .int (v2_1 + (1 : Int32))), (0, .ref (Z.2.1 0)), (1, .int v1)]) e_X11_picksFirst_15 (j := 2) rfl (ii_1 v2_1) (by decide) rfl ?_
    refine kk_goto e_X11_picksFirst_18 ?_
    exact kk_sub [1, 2, 0] rfl (hrec_3 (v2_1 + (1 : Int32)) σ_25 h)
theorem e_X11_laysFirst_0 : kk_d cX11_laysFirst 0 (.aload_n 0) 1 1 := ⟨by decide +kernel, rfl⟩
theorem e_X11_laysFirst_1 : kk_d cX11_laysFirst 1 (.iload_n 1) 1 2 := ⟨by decide +kernel, rfl⟩
theorem e_X11_laysFirst_2 : kk_d cX11_laysFirst 2 (.invokevirtual 124) 3 5 := ⟨by decide +kernel, rfl⟩
theorem e_X11_laysFirst_5 : kk_d cX11_laysFirst 5 (.iload_n 2) 1 6 := ⟨by decide +kernel, rfl⟩
theorem e_X11_laysFirst_6 : kk_dj cX11_laysFirst 6 (.if_icmp .le 5) 3 (5) 9 11 := ⟨by decide +kernel, rfl, by decide⟩
theorem e_X11_laysFirst_11 : kk_d cX11_laysFirst 11 (.iconst 0) 1 12 := ⟨by decide +kernel, rfl⟩
theorem e_X11_laysFirst_12 : kk_d cX11_laysFirst 12 (.istore_n 3) 1 13 := ⟨by decide +kernel, rfl⟩
theorem e_X11_laysFirst_13 : kk_d cX11_laysFirst 13 (.iload_n 3) 1 14 := ⟨by decide +kernel, rfl⟩
theorem e_X11_laysFirst_14 : kk_d cX11_laysFirst 14 (.bipush 20) 2 16 := ⟨by decide +kernel, rfl⟩
theorem e_X11_laysFirst_16 : kk_dj cX11_laysFirst 16 (.if_icmp .ge 20) 3 (20) 19 36 := ⟨by decide +kernel, rfl, by decide⟩
theorem e_X11_laysFirst_36 : kk_d cX11_laysFirst 36 (.aload_n 0) 1 37 := ⟨by decide +kernel, rfl⟩
theorem e_X11_laysFirst_37 : kk_d cX11_laysFirst 37 (.iconst 1) 1 38 := ⟨by decide +kernel, rfl⟩
theorem e_X11_laysFirst_38 : kk_d cX11_laysFirst 38 (.putfield 213) 3 41 := ⟨by decide +kernel, rfl⟩
theorem e_X11_laysFirst_41 : kk_d cX11_laysFirst 41 (.aload_n 0) 1 42 := ⟨by decide +kernel, rfl⟩
theorem e_X11_laysFirst_42 : kk_d cX11_laysFirst 42 (.iload_n 1) 1 43 := ⟨by decide +kernel, rfl⟩
theorem e_X11_laysFirst_43 : kk_d cX11_laysFirst 43 (.invokevirtual 244) 3 46 := ⟨by decide +kernel, rfl⟩
theorem e_X11_laysFirst_46 : kk_d cX11_laysFirst 46 .ireturn 1 47 := ⟨by decide +kernel, rfl⟩
theorem e_X11_laysFirst_19 : kk_d cX11_laysFirst 19 (.aload_n 0) 1 20 := ⟨by decide +kernel, rfl⟩
theorem e_X11_laysFirst_20 : kk_d cX11_laysFirst 20 (.getfield 52) 3 23 := ⟨by decide +kernel, rfl⟩
theorem e_X11_laysFirst_23 : kk_d cX11_laysFirst 23 (.iload_n 3) 1 24 := ⟨by decide +kernel, rfl⟩
theorem e_X11_laysFirst_24 : kk_d cX11_laysFirst 24 (.iconst 1) 1 25 := ⟨by decide +kernel, rfl⟩
theorem e_X11_laysFirst_25 : kk_d cX11_laysFirst 25 (.iload_n 2) 1 26 := ⟨by decide +kernel, rfl⟩
theorem e_X11_laysFirst_26 : kk_d cX11_laysFirst 26 .ishl 1 27 := ⟨by decide +kernel, rfl⟩
theorem e_X11_laysFirst_27 : kk_d cX11_laysFirst 27 (.iconst 1) 1 28 := ⟨by decide +kernel, rfl⟩
theorem e_X11_laysFirst_28 : kk_d cX11_laysFirst 28 .isub 1 29 := ⟨by decide +kernel, rfl⟩
theorem e_X11_laysFirst_29 : kk_d cX11_laysFirst 29 .iastore 1 30 := ⟨by decide +kernel, rfl⟩
theorem e_X11_laysFirst_30 : kk_d cX11_laysFirst 30 (.iinc 3 1) 3 33 := ⟨by decide +kernel, rfl⟩
theorem e_X11_laysFirst_33 : kk_dj cX11_laysFirst 33 (.goto (-20)) 3 (-20) 36 13 := ⟨by decide +kernel, rfl, by decide⟩
theorem e_X11_laysFirst_9 : kk_d cX11_laysFirst 9 (.iconst 0) 1 10 := ⟨by decide +kernel, rfl⟩
theorem e_X11_laysFirst_10 : kk_d cX11_laysFirst 10 .ireturn 1 11 := ⟨by decide +kernel, rfl⟩
set_option maxRecDepth 4000 in
theorem s_X11_laysFirst (Z : kk_Z) (v1 : Int32) (v2 : Int32) (σ : kk_St) (Q : Int32 → kk_St → Prop) (h : f_X11_laysFirst v1 v2 σ Q) : kk_M Z sh_M yX11_laysFirst cX11_laysFirst 4 (some .boolean) (kk_R 7) [.ref (Z.2.1 0), .int v1, .int v2] σ (kk_Qi Z sh_M Q) := by
  unfold f_X11_laysFirst at h
  refine kk_met (own := RX11) (by decide) rfl (Nat.le_of_ble_eq_true rfl) rfl ?_
  refine kk_aload_n 0 rfl e_X11_laysFirst_0 ?_
  refine kk_iload_n 1 rfl e_X11_laysFirst_1 ?_
  refine kk_callVip (As := [.int v1]) (rest := []) e_X11_laysFirst_2 ml_X11_124 ⟨_, _, _, _, rfl, rfl⟩ rfl (kk_fitR (by decide) (by decide)) (Nat.le_of_ble_eq_true rfl) rfl (s_X11_degreeOf Z v1 σ _ h) (fun r_1 h => ?_)
  refine kk_iload_n 2 rfl e_X11_laysFirst_5 ?_
  refine kk_icmp_le e_X11_laysFirst_6 (fun c_10 => ?_) (fun c_10 => ?_)
  · replace h := h.1 c_10
    refine kk_iconst ic_0 e_X11_laysFirst_11 ?_
    refine kk_istore_n (lv' := [(3, .int (0 : Int32)), (0, .ref (Z.2.1 0)), (1, .int v1), (2, .int v2)]) e_X11_laysFirst_12 rfl (by decide) rfl ?_
    refine kk_sub [1, 2, 3, 0] rfl ?_
    refine kk_lpW2 (P := fun (v3_2 : Int32) (σ_3 : kk_St) => KK Z sh_M RX11 cX11_laysFirst 4 (some .boolean) (kk_R 7) (kk_Qi Z sh_M Q) 13 [(0, .ref (Z.2.1 0)), (1, .int v1), (2, .int v2), (3, .int v3_2)] [] σ_3) ?_ h
    intro rec_4 hrec_4 v3_2 σ_3 h
    refine kk_iload_n 3 rfl e_X11_laysFirst_13 ?_
    refine kk_bipush bp_20 e_X11_laysFirst_14 ?_
    refine kk_icmp_ge e_X11_laysFirst_16 (fun c_9 => ?_) (fun c_9 => ?_)
    · replace h := h.1 c_9
      refine kk_aload_n 0 rfl e_X11_laysFirst_36 ?_
      refine kk_iconst ic_1 e_X11_laysFirst_37 ?_
      refine kk_putz e_X11_laysFirst_38 fl_X11_213 fn_X11_17 (Or.inr rfl) rfl rfl ?_
      refine kk_tops (fun σ_5 eσ_5 => ?_)
      replace h := h σ_5 eσ_5
      refine kk_aload_n 0 rfl e_X11_laysFirst_41 ?_
      refine kk_iload_n 1 rfl e_X11_laysFirst_42 ?_
      refine kk_callVi (As := [.int v1]) (rest := []) e_X11_laysFirst_43 ml_X11_244 ⟨_, _, _, _, rfl, rfl⟩ rfl (kk_fitR (by decide) (by decide)) (Nat.le_of_ble_eq_true rfl) rfl (s_X11_picksFirst Z v1 σ_5 _ h) (fun r_6 σ_7 h => ?_)
      exact kk_zret e_X11_laysFirst_46 h.1 h.2
    · replace h := h.2 c_9
      refine kk_aload_n 0 rfl e_X11_laysFirst_19 ?_
      refine kk_getr e_X11_laysFirst_20 fl_X11_52 rfl rfl ?_
      refine kk_iload_n 3 rfl e_X11_laysFirst_23 ?_
      refine kk_iconst ic_1 e_X11_laysFirst_24 ?_
      refine kk_iload_n 2 rfl e_X11_laysFirst_25 ?_
      refine kk_ishl e_X11_laysFirst_26 ?_
      refine kk_iconst ic_1 e_X11_laysFirst_27 ?_
      refine kk_isub e_X11_laysFirst_28 ?_
      refine kk_iast e_X11_laysFirst_29 rfl h.1 ?_
      replace h := h.2
      refine kk_tops (fun σ_8 eσ_8 => ?_)
      replace h := h σ_8 eσ_8
      refine kk_iinc (lv' := [(3, .int (v3_2 + (1 : Int32))), (0, .ref (Z.2.1 0)), (1, .int v1), (2, .int v2)]) e_X11_laysFirst_30 (j := 3) rfl (ii_1 v3_2) (by decide) rfl ?_
      refine kk_goto e_X11_laysFirst_33 ?_
      exact kk_sub [1, 2, 3, 0] rfl (hrec_4 (v3_2 + (1 : Int32)) σ_8 h)
  · replace h := h.2 c_10
    refine kk_iconst ic_0 e_X11_laysFirst_9 ?_
    exact kk_zret e_X11_laysFirst_10 (Or.inl rfl) h
