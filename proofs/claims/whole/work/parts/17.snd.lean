theorem e_X11_laysSides_0 : kk_d cX11_laysSides 0 (.iconst 0) 1 1 := ⟨by decide +kernel, rfl⟩
theorem e_X11_laysSides_1 : kk_d cX11_laysSides 1 (.istore_n 1) 1 2 := ⟨by decide +kernel, rfl⟩
theorem e_X11_laysSides_2 : kk_d cX11_laysSides 2 (.iload_n 1) 1 3 := ⟨by decide +kernel, rfl⟩
theorem e_X11_laysSides_3 : kk_d cX11_laysSides 3 (.aload_n 0) 1 4 := ⟨by decide +kernel, rfl⟩
theorem e_X11_laysSides_4 : kk_d cX11_laysSides 4 (.getfield 21) 3 7 := ⟨by decide +kernel, rfl⟩
theorem e_X11_laysSides_7 : kk_dj cX11_laysSides 7 (.if_icmp .ge 16) 3 (16) 10 23 := ⟨by decide +kernel, rfl, by decide⟩
theorem e_X11_laysSides_23 : kk_d cX11_laysSides 23 (.iconst 0) 1 24 := ⟨by decide +kernel, rfl⟩
theorem e_X11_laysSides_24 : kk_d cX11_laysSides 24 (.istore_n 1) 1 25 := ⟨by decide +kernel, rfl⟩
theorem e_X11_laysSides_25 : kk_d cX11_laysSides 25 (.iload_n 1) 1 26 := ⟨by decide +kernel, rfl⟩
theorem e_X11_laysSides_26 : kk_d cX11_laysSides 26 (.aload_n 0) 1 27 := ⟨by decide +kernel, rfl⟩
theorem e_X11_laysSides_27 : kk_d cX11_laysSides 27 (.getfield 21) 3 30 := ⟨by decide +kernel, rfl⟩
theorem e_X11_laysSides_30 : kk_dj cX11_laysSides 30 (.if_icmp .ge 158) 3 (158) 33 188 := ⟨by decide +kernel, rfl, by decide⟩
theorem e_X11_laysSides_188 : kk_d cX11_laysSides 188 (.iconst 0) 1 189 := ⟨by decide +kernel, rfl⟩
theorem e_X11_laysSides_189 : kk_d cX11_laysSides 189 (.istore_n 1) 1 190 := ⟨by decide +kernel, rfl⟩
theorem e_X11_laysSides_190 : kk_d cX11_laysSides 190 (.iload_n 1) 1 191 := ⟨by decide +kernel, rfl⟩
theorem e_X11_laysSides_191 : kk_d cX11_laysSides 191 (.aload_n 0) 1 192 := ⟨by decide +kernel, rfl⟩
theorem e_X11_laysSides_192 : kk_d cX11_laysSides 192 (.getfield 96) 3 195 := ⟨by decide +kernel, rfl⟩
theorem e_X11_laysSides_195 : kk_dj cX11_laysSides 195 (.if_icmp .ge 36) 3 (36) 198 231 := ⟨by decide +kernel, rfl, by decide⟩
theorem e_X11_laysSides_231 : kk_d cX11_laysSides 231 (.iconst 1) 1 232 := ⟨by decide +kernel, rfl⟩
theorem e_X11_laysSides_232 : kk_d cX11_laysSides 232 .ireturn 1 233 := ⟨by decide +kernel, rfl⟩
theorem e_X11_laysSides_198 : kk_d cX11_laysSides 198 (.aload_n 0) 1 199 := ⟨by decide +kernel, rfl⟩
theorem e_X11_laysSides_199 : kk_d cX11_laysSides 199 (.getfield 46) 3 202 := ⟨by decide +kernel, rfl⟩
theorem e_X11_laysSides_202 : kk_d cX11_laysSides 202 (.aload_n 0) 1 203 := ⟨by decide +kernel, rfl⟩
theorem e_X11_laysSides_203 : kk_d cX11_laysSides 203 (.getfield 24) 3 206 := ⟨by decide +kernel, rfl⟩
theorem e_X11_laysSides_206 : kk_d cX11_laysSides 206 (.iload_n 1) 1 207 := ⟨by decide +kernel, rfl⟩
theorem e_X11_laysSides_207 : kk_d cX11_laysSides 207 .iaload 1 208 := ⟨by decide +kernel, rfl⟩
theorem e_X11_laysSides_208 : kk_d cX11_laysSides 208 .iaload 1 209 := ⟨by decide +kernel, rfl⟩
theorem e_X11_laysSides_209 : kk_d cX11_laysSides 209 (.aload_n 0) 1 210 := ⟨by decide +kernel, rfl⟩
theorem e_X11_laysSides_210 : kk_d cX11_laysSides 210 (.getfield 46) 3 213 := ⟨by decide +kernel, rfl⟩
theorem e_X11_laysSides_213 : kk_d cX11_laysSides 213 (.aload_n 0) 1 214 := ⟨by decide +kernel, rfl⟩
theorem e_X11_laysSides_214 : kk_d cX11_laysSides 214 (.getfield 28) 3 217 := ⟨by decide +kernel, rfl⟩
theorem e_X11_laysSides_217 : kk_d cX11_laysSides 217 (.iload_n 1) 1 218 := ⟨by decide +kernel, rfl⟩
theorem e_X11_laysSides_218 : kk_d cX11_laysSides 218 .iaload 1 219 := ⟨by decide +kernel, rfl⟩
theorem e_X11_laysSides_219 : kk_d cX11_laysSides 219 .iaload 1 220 := ⟨by decide +kernel, rfl⟩
theorem e_X11_laysSides_220 : kk_dj cX11_laysSides 220 (.if_icmp .ne 5) 3 (5) 223 225 := ⟨by decide +kernel, rfl, by decide⟩
theorem e_X11_laysSides_225 : kk_d cX11_laysSides 225 (.iinc 1 1) 3 228 := ⟨by decide +kernel, rfl⟩
theorem e_X11_laysSides_228 : kk_dj cX11_laysSides 228 (.goto (-38)) 3 (-38) 231 190 := ⟨by decide +kernel, rfl, by decide⟩
theorem e_X11_laysSides_223 : kk_d cX11_laysSides 223 (.iconst 0) 1 224 := ⟨by decide +kernel, rfl⟩
theorem e_X11_laysSides_224 : kk_d cX11_laysSides 224 .ireturn 1 225 := ⟨by decide +kernel, rfl⟩
theorem e_X11_laysSides_33 : kk_d cX11_laysSides 33 (.aload_n 0) 1 34 := ⟨by decide +kernel, rfl⟩
theorem e_X11_laysSides_34 : kk_d cX11_laysSides 34 (.getfield 46) 3 37 := ⟨by decide +kernel, rfl⟩
theorem e_X11_laysSides_37 : kk_d cX11_laysSides 37 (.iload_n 1) 1 38 := ⟨by decide +kernel, rfl⟩
theorem e_X11_laysSides_38 : kk_d cX11_laysSides 38 .iaload 1 39 := ⟨by decide +kernel, rfl⟩
theorem e_X11_laysSides_39 : kk_d cX11_laysSides 39 (.iconst (-1)) 1 40 := ⟨by decide +kernel, rfl⟩
theorem e_X11_laysSides_40 : kk_dj cX11_laysSides 40 (.if_icmp .eq 6) 3 (6) 43 46 := ⟨by decide +kernel, rfl, by decide⟩
theorem e_X11_laysSides_182 : kk_d cX11_laysSides 182 (.iinc 1 1) 3 185 := ⟨by decide +kernel, rfl⟩
theorem e_X11_laysSides_185 : kk_dj cX11_laysSides 185 (.goto (-160)) 3 (-160) 188 25 := ⟨by decide +kernel, rfl, by decide⟩
theorem e_X11_laysSides_46 : kk_d cX11_laysSides 46 (.aload_n 0) 1 47 := ⟨by decide +kernel, rfl⟩
theorem e_X11_laysSides_47 : kk_d cX11_laysSides 47 (.getfield 46) 3 50 := ⟨by decide +kernel, rfl⟩
theorem e_X11_laysSides_50 : kk_d cX11_laysSides 50 (.iload_n 1) 1 51 := ⟨by decide +kernel, rfl⟩
theorem e_X11_laysSides_51 : kk_d cX11_laysSides 51 (.iconst 0) 1 52 := ⟨by decide +kernel, rfl⟩
theorem e_X11_laysSides_52 : kk_d cX11_laysSides 52 .iastore 1 53 := ⟨by decide +kernel, rfl⟩
theorem e_X11_laysSides_53 : kk_d cX11_laysSides 53 (.iconst 1) 1 54 := ⟨by decide +kernel, rfl⟩
theorem e_X11_laysSides_54 : kk_d cX11_laysSides 54 (.istore_n 2) 1 55 := ⟨by decide +kernel, rfl⟩
theorem e_X11_laysSides_55 : kk_d cX11_laysSides 55 (.iload_n 2) 1 56 := ⟨by decide +kernel, rfl⟩
theorem e_X11_laysSides_56 : kk_dj cX11_laysSides 56 (.ifCond .eq 126) 3 (126) 59 182 := ⟨by decide +kernel, rfl, by decide⟩
theorem e_X11_laysSides_59 : kk_d cX11_laysSides 59 (.iconst 0) 1 60 := ⟨by decide +kernel, rfl⟩
theorem e_X11_laysSides_60 : kk_d cX11_laysSides 60 (.istore_n 2) 1 61 := ⟨by decide +kernel, rfl⟩
theorem e_X11_laysSides_61 : kk_d cX11_laysSides 61 (.iconst 0) 1 62 := ⟨by decide +kernel, rfl⟩
theorem e_X11_laysSides_62 : kk_d cX11_laysSides 62 (.istore_n 3) 1 63 := ⟨by decide +kernel, rfl⟩
theorem e_X11_laysSides_63 : kk_d cX11_laysSides 63 (.iload_n 3) 1 64 := ⟨by decide +kernel, rfl⟩
theorem e_X11_laysSides_64 : kk_d cX11_laysSides 64 (.aload_n 0) 1 65 := ⟨by decide +kernel, rfl⟩
theorem e_X11_laysSides_65 : kk_d cX11_laysSides 65 (.getfield 96) 3 68 := ⟨by decide +kernel, rfl⟩
theorem e_X11_laysSides_68 : kk_dj cX11_laysSides 68 (.if_icmp .ge 111) 3 (111) 71 179 := ⟨by decide +kernel, rfl, by decide⟩
theorem e_X11_laysSides_179 : kk_dj cX11_laysSides 179 (.goto (-124)) 3 (-124) 182 55 := ⟨by decide +kernel, rfl, by decide⟩
theorem e_X11_laysSides_71 : kk_d cX11_laysSides 71 (.aload_n 0) 1 72 := ⟨by decide +kernel, rfl⟩
theorem e_X11_laysSides_72 : kk_d cX11_laysSides 72 (.getfield 24) 3 75 := ⟨by decide +kernel, rfl⟩
theorem e_X11_laysSides_75 : kk_d cX11_laysSides 75 (.iload_n 3) 1 76 := ⟨by decide +kernel, rfl⟩
theorem e_X11_laysSides_76 : kk_d cX11_laysSides 76 .iaload 1 77 := ⟨by decide +kernel, rfl⟩
theorem e_X11_laysSides_77 : kk_d cX11_laysSides 77 (.istore 4) 2 79 := ⟨by decide +kernel, rfl⟩
theorem e_X11_laysSides_79 : kk_d cX11_laysSides 79 (.aload_n 0) 1 80 := ⟨by decide +kernel, rfl⟩
theorem e_X11_laysSides_80 : kk_d cX11_laysSides 80 (.getfield 28) 3 83 := ⟨by decide +kernel, rfl⟩
theorem e_X11_laysSides_83 : kk_d cX11_laysSides 83 (.iload_n 3) 1 84 := ⟨by decide +kernel, rfl⟩
theorem e_X11_laysSides_84 : kk_d cX11_laysSides 84 .iaload 1 85 := ⟨by decide +kernel, rfl⟩
theorem e_X11_laysSides_85 : kk_d cX11_laysSides 85 (.istore 5) 2 87 := ⟨by decide +kernel, rfl⟩
theorem e_X11_laysSides_87 : kk_d cX11_laysSides 87 (.aload_n 0) 1 88 := ⟨by decide +kernel, rfl⟩
theorem e_X11_laysSides_88 : kk_d cX11_laysSides 88 (.getfield 46) 3 91 := ⟨by decide +kernel, rfl⟩
theorem e_X11_laysSides_91 : kk_d cX11_laysSides 91 (.iload 4) 2 93 := ⟨by decide +kernel, rfl⟩
theorem e_X11_laysSides_93 : kk_d cX11_laysSides 93 .iaload 1 94 := ⟨by decide +kernel, rfl⟩
theorem e_X11_laysSides_94 : kk_d cX11_laysSides 94 (.iconst (-1)) 1 95 := ⟨by decide +kernel, rfl⟩
theorem e_X11_laysSides_95 : kk_dj cX11_laysSides 95 (.if_icmp .ne 7) 3 (7) 98 102 := ⟨by decide +kernel, rfl, by decide⟩
theorem e_X11_laysSides_103 : kk_d cX11_laysSides 103 (.aload_n 0) 1 104 := ⟨by decide +kernel, rfl⟩
theorem e_X11_laysSides_104 : kk_d cX11_laysSides 104 (.getfield 46) 3 107 := ⟨by decide +kernel, rfl⟩
theorem e_X11_laysSides_107 : kk_d cX11_laysSides 107 (.iload 5) 2 109 := ⟨by decide +kernel, rfl⟩
theorem e_X11_laysSides_109 : kk_d cX11_laysSides 109 .iaload 1 110 := ⟨by decide +kernel, rfl⟩
theorem e_X11_laysSides_110 : kk_d cX11_laysSides 110 (.iconst (-1)) 1 111 := ⟨by decide +kernel, rfl⟩
theorem e_X11_laysSides_111 : kk_dj cX11_laysSides 111 (.if_icmp .ne 7) 3 (7) 114 118 := ⟨by decide +kernel, rfl, by decide⟩
theorem e_X11_laysSides_119 : kk_dj cX11_laysSides 119 (.if_icmp .ne 6) 3 (6) 122 125 := ⟨by decide +kernel, rfl, by decide⟩
theorem e_X11_laysSides_173 : kk_d cX11_laysSides 173 (.iinc 3 1) 3 176 := ⟨by decide +kernel, rfl⟩
theorem e_X11_laysSides_176 : kk_dj cX11_laysSides 176 (.goto (-113)) 3 (-113) 179 63 := ⟨by decide +kernel, rfl, by decide⟩
theorem e_X11_laysSides_125 : kk_d cX11_laysSides 125 (.iconst 1) 1 126 := ⟨by decide +kernel, rfl⟩
theorem e_X11_laysSides_126 : kk_d cX11_laysSides 126 (.istore_n 2) 1 127 := ⟨by decide +kernel, rfl⟩
theorem e_X11_laysSides_127 : kk_d cX11_laysSides 127 (.aload_n 0) 1 128 := ⟨by decide +kernel, rfl⟩
theorem e_X11_laysSides_128 : kk_d cX11_laysSides 128 (.getfield 46) 3 131 := ⟨by decide +kernel, rfl⟩
theorem e_X11_laysSides_131 : kk_d cX11_laysSides 131 (.iload 4) 2 133 := ⟨by decide +kernel, rfl⟩
theorem e_X11_laysSides_133 : kk_d cX11_laysSides 133 .iaload 1 134 := ⟨by decide +kernel, rfl⟩
theorem e_X11_laysSides_134 : kk_d cX11_laysSides 134 (.iconst (-1)) 1 135 := ⟨by decide +kernel, rfl⟩
theorem e_X11_laysSides_135 : kk_dj cX11_laysSides 135 (.if_icmp .ne 22) 3 (22) 138 157 := ⟨by decide +kernel, rfl, by decide⟩
theorem e_X11_laysSides_157 : kk_d cX11_laysSides 157 (.aload_n 0) 1 158 := ⟨by decide +kernel, rfl⟩
theorem e_X11_laysSides_158 : kk_d cX11_laysSides 158 (.getfield 46) 3 161 := ⟨by decide +kernel, rfl⟩
theorem e_X11_laysSides_161 : kk_d cX11_laysSides 161 (.iload 5) 2 163 := ⟨by decide +kernel, rfl⟩
theorem e_X11_laysSides_163 : kk_d cX11_laysSides 163 (.iconst 1) 1 164 := ⟨by decide +kernel, rfl⟩
theorem e_X11_laysSides_164 : kk_d cX11_laysSides 164 (.aload_n 0) 1 165 := ⟨by decide +kernel, rfl⟩
theorem e_X11_laysSides_165 : kk_d cX11_laysSides 165 (.getfield 46) 3 168 := ⟨by decide +kernel, rfl⟩
theorem e_X11_laysSides_168 : kk_d cX11_laysSides 168 (.iload 4) 2 170 := ⟨by decide +kernel, rfl⟩
theorem e_X11_laysSides_170 : kk_d cX11_laysSides 170 .iaload 1 171 := ⟨by decide +kernel, rfl⟩
theorem e_X11_laysSides_171 : kk_d cX11_laysSides 171 .isub 1 172 := ⟨by decide +kernel, rfl⟩
theorem e_X11_laysSides_172 : kk_d cX11_laysSides 172 .iastore 1 173 := ⟨by decide +kernel, rfl⟩
theorem e_X11_laysSides_138 : kk_d cX11_laysSides 138 (.aload_n 0) 1 139 := ⟨by decide +kernel, rfl⟩
theorem e_X11_laysSides_139 : kk_d cX11_laysSides 139 (.getfield 46) 3 142 := ⟨by decide +kernel, rfl⟩
theorem e_X11_laysSides_142 : kk_d cX11_laysSides 142 (.iload 4) 2 144 := ⟨by decide +kernel, rfl⟩
theorem e_X11_laysSides_144 : kk_d cX11_laysSides 144 (.iconst 1) 1 145 := ⟨by decide +kernel, rfl⟩
theorem e_X11_laysSides_145 : kk_d cX11_laysSides 145 (.aload_n 0) 1 146 := ⟨by decide +kernel, rfl⟩
theorem e_X11_laysSides_146 : kk_d cX11_laysSides 146 (.getfield 46) 3 149 := ⟨by decide +kernel, rfl⟩
theorem e_X11_laysSides_149 : kk_d cX11_laysSides 149 (.iload 5) 2 151 := ⟨by decide +kernel, rfl⟩
theorem e_X11_laysSides_151 : kk_d cX11_laysSides 151 .iaload 1 152 := ⟨by decide +kernel, rfl⟩
theorem e_X11_laysSides_152 : kk_d cX11_laysSides 152 .isub 1 153 := ⟨by decide +kernel, rfl⟩
theorem e_X11_laysSides_153 : kk_d cX11_laysSides 153 .iastore 1 154 := ⟨by decide +kernel, rfl⟩
theorem e_X11_laysSides_154 : kk_dj cX11_laysSides 154 (.goto 19) 3 (19) 157 173 := ⟨by decide +kernel, rfl, by decide⟩
theorem e_X11_laysSides_122 : kk_dj cX11_laysSides 122 (.goto 51) 3 (51) 125 173 := ⟨by decide +kernel, rfl, by decide⟩
theorem e_X11_laysSides_118 : kk_d cX11_laysSides 118 (.iconst 0) 1 119 := ⟨by decide +kernel, rfl⟩
theorem e_X11_laysSides_114 : kk_d cX11_laysSides 114 (.iconst 1) 1 115 := ⟨by decide +kernel, rfl⟩
theorem e_X11_laysSides_115 : kk_dj cX11_laysSides 115 (.goto 4) 3 (4) 118 119 := ⟨by decide +kernel, rfl, by decide⟩
theorem e_X11_laysSides_102 : kk_d cX11_laysSides 102 (.iconst 0) 1 103 := ⟨by decide +kernel, rfl⟩
theorem e_X11_laysSides_98 : kk_d cX11_laysSides 98 (.iconst 1) 1 99 := ⟨by decide +kernel, rfl⟩
theorem e_X11_laysSides_99 : kk_dj cX11_laysSides 99 (.goto 4) 3 (4) 102 103 := ⟨by decide +kernel, rfl, by decide⟩
theorem e_X11_laysSides_43 : kk_dj cX11_laysSides 43 (.goto 139) 3 (139) 46 182 := ⟨by decide +kernel, rfl, by decide⟩
theorem e_X11_laysSides_10 : kk_d cX11_laysSides 10 (.aload_n 0) 1 11 := ⟨by decide +kernel, rfl⟩
theorem e_X11_laysSides_11 : kk_d cX11_laysSides 11 (.getfield 46) 3 14 := ⟨by decide +kernel, rfl⟩
theorem e_X11_laysSides_14 : kk_d cX11_laysSides 14 (.iload_n 1) 1 15 := ⟨by decide +kernel, rfl⟩
theorem e_X11_laysSides_15 : kk_d cX11_laysSides 15 (.iconst (-1)) 1 16 := ⟨by decide +kernel, rfl⟩
theorem e_X11_laysSides_16 : kk_d cX11_laysSides 16 .iastore 1 17 := ⟨by decide +kernel, rfl⟩
theorem e_X11_laysSides_17 : kk_d cX11_laysSides 17 (.iinc 1 1) 3 20 := ⟨by decide +kernel, rfl⟩
theorem e_X11_laysSides_20 : kk_dj cX11_laysSides 20 (.goto (-18)) 3 (-18) 23 2 := ⟨by decide +kernel, rfl, by decide⟩
set_option maxRecDepth 4000 in
theorem s_X11_laysSides (Z : kk_Z) (σ : kk_St) (Q : Int32 → kk_St → Prop) (h : f_X11_laysSides σ Q) : kk_M Z sh_M yX11_laysSides cX11_laysSides 6 (some .boolean) (kk_R 2) [.ref (Z.2.1 0)] σ (kk_Qi Z sh_M Q) := by
  unfold f_X11_laysSides at h
  refine kk_met (own := RX11) (by decide) rfl (Nat.le_of_ble_eq_true rfl) rfl ?_
  refine kk_iconst ic_0 e_X11_laysSides_0 ?_
  refine kk_istore_n (lv' := [(1, .int (0 : Int32)), (0, .ref (Z.2.1 0))]) e_X11_laysSides_1 rfl (by decide) rfl ?_
  refine kk_sub [1, 0] rfl ?_
  refine kk_lpW2 (P := fun (v1_1 : Int32) (σ_2 : kk_St) => KK Z sh_M RX11 cX11_laysSides 6 (some .boolean) (kk_R 2) (kk_Qi Z sh_M Q) 2 [(0, .ref (Z.2.1 0)), (1, .int v1_1)] [] σ_2) ?_ h
  intro rec_3 hrec_3 v1_1 σ_2 h
  refine kk_iload_n 1 rfl e_X11_laysSides_2 ?_
  refine kk_aload_n 0 rfl e_X11_laysSides_3 ?_
  refine kk_geti e_X11_laysSides_4 fl_X11_21 rfl rfl ?_
  refine kk_icmp_ge e_X11_laysSides_7 (fun c_39 => ?_) (fun c_39 => ?_)
  · replace h := h.1 c_39
    refine kk_iconst ic_0 e_X11_laysSides_23 ?_
    refine kk_istore_n (lv' := [(1, .int (0 : Int32)), (0, .ref (Z.2.1 0))]) e_X11_laysSides_24 rfl (by decide) rfl ?_
    refine kk_sub [1, 0] rfl ?_
    refine kk_lpW2 (P := fun (v1_4 : Int32) (σ_5 : kk_St) => KK Z sh_M RX11 cX11_laysSides 6 (some .boolean) (kk_R 2) (kk_Qi Z sh_M Q) 25 [(0, .ref (Z.2.1 0)), (1, .int v1_4)] [] σ_5) ?_ h
    intro rec_6 hrec_6 v1_4 σ_5 h
    refine kk_iload_n 1 rfl e_X11_laysSides_25 ?_
    refine kk_aload_n 0 rfl e_X11_laysSides_26 ?_
    refine kk_geti e_X11_laysSides_27 fl_X11_21 rfl rfl ?_
    refine kk_icmp_ge e_X11_laysSides_30 (fun c_37 => ?_) (fun c_37 => ?_)
    · replace h := h.1 c_37
      refine kk_iconst ic_0 e_X11_laysSides_188 ?_
      refine kk_istore_n (lv' := [(1, .int (0 : Int32)), (0, .ref (Z.2.1 0))]) e_X11_laysSides_189 rfl (by decide) rfl ?_
      refine kk_sub [1, 0] rfl ?_
      refine kk_lpW1 (P := fun (v1_7 : Int32) => KK Z sh_M RX11 cX11_laysSides 6 (some .boolean) (kk_R 2) (kk_Qi Z sh_M Q) 190 [(0, .ref (Z.2.1 0)), (1, .int v1_7)] [] σ_5) ?_ h
      intro rec_8 hrec_8 v1_7 h
      refine kk_iload_n 1 rfl e_X11_laysSides_190 ?_
      refine kk_aload_n 0 rfl e_X11_laysSides_191 ?_
      refine kk_geti e_X11_laysSides_192 fl_X11_96 rfl rfl ?_
      refine kk_icmp_ge e_X11_laysSides_195 (fun c_10 => ?_) (fun c_10 => ?_)
      · replace h := h.1 c_10
        refine kk_iconst ic_1 e_X11_laysSides_231 ?_
        exact kk_zret e_X11_laysSides_232 (Or.inr rfl) h
      · replace h := h.2 c_10
        refine kk_aload_n 0 rfl e_X11_laysSides_198 ?_
        refine kk_getr e_X11_laysSides_199 fl_X11_46 rfl rfl ?_
        refine kk_aload_n 0 rfl e_X11_laysSides_202 ?_
        refine kk_getr e_X11_laysSides_203 fl_X11_24 rfl rfl ?_
        refine kk_iload_n 1 rfl e_X11_laysSides_206 ?_
        refine kk_iald e_X11_laysSides_207 rfl h.1 ?_
        replace h := h.2
        refine kk_iald e_X11_laysSides_208 rfl h.1 ?_
        replace h := h.2
        refine kk_aload_n 0 rfl e_X11_laysSides_209 ?_
        refine kk_getr e_X11_laysSides_210 fl_X11_46 rfl rfl ?_
        refine kk_aload_n 0 rfl e_X11_laysSides_213 ?_
        refine kk_getr e_X11_laysSides_214 fl_X11_28 rfl rfl ?_
        refine kk_iload_n 1 rfl e_X11_laysSides_217 ?_
        refine kk_iald e_X11_laysSides_218 rfl h.1 ?_
        replace h := h.2
        refine kk_iald e_X11_laysSides_219 rfl h.1 ?_
        replace h := h.2
        refine kk_icmp_ne e_X11_laysSides_220 (fun c_9 => ?_) (fun c_9 => ?_)
        · replace h := h.1 c_9
          refine kk_iinc (lv' := [(1, .int (v1_7 + (1 : Int32))), (0, .ref (Z.2.1 0))]) e_X11_laysSides_225 (j := 1) rfl (ii_1 v1_7) (by decide) rfl ?_
          refine kk_goto e_X11_laysSides_228 ?_
          exact kk_sub [1, 0] rfl (hrec_8 (v1_7 + (1 : Int32)) h)
        · replace h := h.2 c_9
          refine kk_iconst ic_0 e_X11_laysSides_223 ?_
          exact kk_zret e_X11_laysSides_224 (Or.inl rfl) h
    · replace h := h.2 c_37
      refine kk_aload_n 0 rfl e_X11_laysSides_33 ?_
      refine kk_getr e_X11_laysSides_34 fl_X11_46 rfl rfl ?_
      refine kk_iload_n 1 rfl e_X11_laysSides_37 ?_
      refine kk_iald e_X11_laysSides_38 rfl h.1 ?_
      replace h := h.2
      refine kk_iconst ic_m1 e_X11_laysSides_39 ?_
      refine kk_jW1 (P := fun (σ_11 : kk_St) => KK Z sh_M RX11 cX11_laysSides 6 (some .boolean) (kk_R 2) (kk_Qi Z sh_M Q) 182 [(0, .ref (Z.2.1 0)), (1, .int v1_4)] [] σ_11) h ?_ ?_
      · intro σ_11 h
        refine kk_iinc (lv' := [(1, .int (v1_4 + (1 : Int32))), (0, .ref (Z.2.1 0))]) e_X11_laysSides_182 (j := 1) rfl (ii_1 v1_4) (by decide) rfl ?_
        refine kk_goto e_X11_laysSides_185 ?_
        exact kk_sub [1, 0] rfl (hrec_6 (v1_4 + (1 : Int32)) σ_11 h)
      · intro J_12 hJ_12 h
        refine kk_icmp_eq e_X11_laysSides_40 (fun c_36 => ?_) (fun c_36 => ?_)
        · replace h := h.1 c_36
          refine kk_aload_n 0 rfl e_X11_laysSides_46 ?_
          refine kk_getr e_X11_laysSides_47 fl_X11_46 rfl rfl ?_
          refine kk_iload_n 1 rfl e_X11_laysSides_50 ?_
          refine kk_iconst ic_0 e_X11_laysSides_51 ?_
          refine kk_iast e_X11_laysSides_52 rfl h.1 ?_
          replace h := h.2
          refine kk_tops (fun σ_13 eσ_13 => ?_)
          replace h := h σ_13 eσ_13
          refine kk_iconst ic_1 e_X11_laysSides_53 ?_
          refine kk_istore_n (lv' := [(2, .int (1 : Int32)), (0, .ref (Z.2.1 0)), (1, .int v1_4)]) e_X11_laysSides_54 rfl (by decide) rfl ?_
          refine kk_sub [1, 2, 0] rfl ?_
          refine kk_lpW2 (P := fun (v2_14 : Int32) (σ_15 : kk_St) => KK Z sh_M RX11 cX11_laysSides 6 (some .boolean) (kk_R 2) (kk_Qi Z sh_M Q) 55 [(0, .ref (Z.2.1 0)), (1, .int v1_4), (2, .int v2_14)] [] σ_15) ?_ h
          intro rec_16 hrec_16 v2_14 σ_15 h
          refine kk_iload_n 2 rfl e_X11_laysSides_55 ?_
          refine kk_if_eq e_X11_laysSides_56 (fun c_35 => ?_) (fun c_35 => ?_)
          · replace h := h.1 c_35
            exact kk_sub [0, 1] rfl (hJ_12 σ_15 h)
          · replace h := h.2 c_35
            refine kk_iconst ic_0 e_X11_laysSides_59 ?_
            refine kk_istore_n (lv' := [(2, .int (0 : Int32)), (0, .ref (Z.2.1 0)), (1, .int v1_4)]) e_X11_laysSides_60 rfl (by decide) rfl ?_
            refine kk_iconst ic_0 e_X11_laysSides_61 ?_
            refine kk_istore_n (lv' := [(3, .int (0 : Int32)), (2, .int (0 : Int32)), (0, .ref (Z.2.1 0)), (1, .int v1_4)]) e_X11_laysSides_62 rfl (by decide) rfl ?_
            refine kk_sub [2, 3, 1, 0] rfl ?_
            refine kk_lpW3 (P := fun (v2_17 : Int32) (v3_18 : Int32) (σ_19 : kk_St) => KK Z sh_M RX11 cX11_laysSides 6 (some .boolean) (kk_R 2) (kk_Qi Z sh_M Q) 63 [(0, .ref (Z.2.1 0)), (1, .int v1_4), (2, .int v2_17), (3, .int v3_18)] [] σ_19) ?_ h
            intro rec_20 hrec_20 v2_17 v3_18 σ_19 h
            refine kk_iload_n 3 rfl e_X11_laysSides_63 ?_
            refine kk_aload_n 0 rfl e_X11_laysSides_64 ?_
            refine kk_geti e_X11_laysSides_65 fl_X11_96 rfl rfl ?_
            refine kk_icmp_ge e_X11_laysSides_68 (fun c_34 => ?_) (fun c_34 => ?_)
            · replace h := h.1 c_34
              refine kk_goto e_X11_laysSides_179 ?_
              exact kk_sub [0, 1, 2] rfl (hrec_16 v2_17 σ_19 h)
            · replace h := h.2 c_34
              refine kk_aload_n 0 rfl e_X11_laysSides_71 ?_
              refine kk_getr e_X11_laysSides_72 fl_X11_24 rfl rfl ?_
              refine kk_iload_n 3 rfl e_X11_laysSides_75 ?_
              refine kk_iald e_X11_laysSides_76 rfl h.1 ?_
              replace h := h.2
              refine kk_istore (lv' := [(4, .int (kk_rd σ_19 1 v3_18)), (0, .ref (Z.2.1 0)), (1, .int v1_4), (2, .int v2_17), (3, .int v3_18)]) e_X11_laysSides_77 (by decide) rfl ?_
              refine kk_aload_n 1 rfl e_X11_laysSides_79 ?_
              refine kk_getr e_X11_laysSides_80 fl_X11_28 rfl rfl ?_
              refine kk_iload_n 4 rfl e_X11_laysSides_83 ?_
              refine kk_iald e_X11_laysSides_84 rfl h.1 ?_
              replace h := h.2
              refine kk_istore (lv' := [(5, .int (kk_rd σ_19 2 v3_18)), (4, .int (kk_rd σ_19 1 v3_18)), (0, .ref (Z.2.1 0)), (1, .int v1_4), (2, .int v2_17), (3, .int v3_18)]) e_X11_laysSides_85 (by decide) rfl ?_
              refine kk_aload_n 2 rfl e_X11_laysSides_87 ?_
              refine kk_getr e_X11_laysSides_88 fl_X11_46 rfl rfl ?_
              refine kk_iload 1 rfl e_X11_laysSides_91 ?_
              refine kk_iald e_X11_laysSides_93 rfl h.1 ?_
              replace h := h.2
              refine kk_iconst ic_m1 e_X11_laysSides_94 ?_
              refine kk_jW1 (P := fun (t_21 : Int32) => KK Z sh_M RX11 cX11_laysSides 6 (some .boolean) (kk_R 2) (kk_Qi Z sh_M Q) 103 [(0, .ref (Z.2.1 0)), (1, .int v1_4), (2, .int v2_17), (3, .int v3_18), (4, .int (kk_rd σ_19 1 v3_18)), (5, .int (kk_rd σ_19 2 v3_18))] [.int t_21] σ_19) h ?_ ?_
              · intro t_21 h
                refine kk_aload_n 0 rfl e_X11_laysSides_103 ?_
                refine kk_getr e_X11_laysSides_104 fl_X11_46 rfl rfl ?_
                refine kk_iload 5 rfl e_X11_laysSides_107 ?_
                refine kk_iald e_X11_laysSides_109 rfl h.1 ?_
                replace h := h.2
                refine kk_iconst ic_m1 e_X11_laysSides_110 ?_
                refine kk_jW1 (P := fun (t_23 : Int32) => KK Z sh_M RX11 cX11_laysSides 6 (some .boolean) (kk_R 2) (kk_Qi Z sh_M Q) 119 [(0, .ref (Z.2.1 0)), (1, .int v1_4), (2, .int v2_17), (3, .int v3_18), (4, .int (kk_rd σ_19 1 v3_18)), (5, .int (kk_rd σ_19 2 v3_18))] [.int t_23, .int t_21] σ_19) h ?_ ?_
                · intro t_23 h
                  refine kk_jW2 (P := fun (v2_25 : Int32) (σ_26 : kk_St) => KK Z sh_M RX11 cX11_laysSides 6 (some .boolean) (kk_R 2) (kk_Qi Z sh_M Q) 173 [(0, .ref (Z.2.1 0)), (1, .int v1_4), (2, .int v2_25), (3, .int v3_18)] [] σ_26) h ?_ ?_
                  · intro v2_25 σ_26 h
                    refine kk_iinc (lv' := [(3, .int (v3_18 + (1 : Int32))), (0, .ref (Z.2.1 0)), (1, .int v1_4), (2, .int v2_25)]) e_X11_laysSides_173 (j := 3) rfl (ii_1 v3_18) (by decide) rfl ?_
                    refine kk_goto e_X11_laysSides_176 ?_
                    exact kk_sub [1, 2, 3, 0] rfl (hrec_20 v2_25 (v3_18 + (1 : Int32)) σ_26 h)
                  · intro J_27 hJ_27 h
                    refine kk_icmp_ne e_X11_laysSides_119 (fun c_31 => ?_) (fun c_31 => ?_)
                    · replace h := h.1 c_31
                      refine kk_iconst ic_1 e_X11_laysSides_125 ?_
                      refine kk_istore_n (lv' := [(2, .int (1 : Int32)), (0, .ref (Z.2.1 0)), (1, .int v1_4), (3, .int v3_18), (4, .int (kk_rd σ_19 1 v3_18)), (5, .int (kk_rd σ_19 2 v3_18))]) e_X11_laysSides_126 rfl (by decide) rfl ?_
                      refine kk_aload_n 1 rfl e_X11_laysSides_127 ?_
                      refine kk_getr e_X11_laysSides_128 fl_X11_46 rfl rfl ?_
                      refine kk_iload 4 rfl e_X11_laysSides_131 ?_
                      refine kk_iald e_X11_laysSides_133 rfl h.1 ?_
                      replace h := h.2
                      refine kk_iconst ic_m1 e_X11_laysSides_134 ?_
                      refine kk_icmp_ne e_X11_laysSides_135 (fun c_30 => ?_) (fun c_30 => ?_)
                      · replace h := h.1 c_30
                        refine kk_aload_n 1 rfl e_X11_laysSides_157 ?_
                        refine kk_getr e_X11_laysSides_158 fl_X11_46 rfl rfl ?_
                        refine kk_iload 5 rfl e_X11_laysSides_161 ?_
                        refine kk_iconst ic_1 e_X11_laysSides_163 ?_
                        refine kk_aload_n 1 rfl e_X11_laysSides_164 ?_
                        refine kk_getr e_X11_laysSides_165 fl_X11_46 rfl rfl ?_
                        refine kk_iload 4 rfl e_X11_laysSides_168 ?_
                        refine kk_iald e_X11_laysSides_170 rfl h.1 ?_
                        replace h := h.2
                        refine kk_isub e_X11_laysSides_171 ?_
                        refine kk_iast e_X11_laysSides_172 rfl h.1 ?_
                        replace h := h.2
                        refine kk_tops (fun σ_28 eσ_28 => ?_)
                        replace h := h σ_28 eσ_28
                        exact kk_sub [1, 2, 0, 3] rfl (hJ_27 (1 : Int32) σ_28 h)
                      · replace h := h.2 c_30
                        refine kk_aload_n 1 rfl e_X11_laysSides_138 ?_
                        refine kk_getr e_X11_laysSides_139 fl_X11_46 rfl rfl ?_
                        refine kk_iload 4 rfl e_X11_laysSides_142 ?_
                        refine kk_iconst ic_1 e_X11_laysSides_144 ?_
                        refine kk_aload_n 1 rfl e_X11_laysSides_145 ?_
                        refine kk_getr e_X11_laysSides_146 fl_X11_46 rfl rfl ?_
                        refine kk_iload 5 rfl e_X11_laysSides_149 ?_
                        refine kk_iald e_X11_laysSides_151 rfl h.1 ?_
                        replace h := h.2
                        refine kk_isub e_X11_laysSides_152 ?_
                        refine kk_iast e_X11_laysSides_153 rfl h.1 ?_
                        replace h := h.2
                        refine kk_tops (fun σ_29 eσ_29 => ?_)
                        replace h := h σ_29 eσ_29
                        refine kk_goto e_X11_laysSides_154 ?_
                        exact kk_sub [1, 2, 0, 3] rfl (hJ_27 (1 : Int32) σ_29 h)
                    · replace h := h.2 c_31
                      refine kk_goto e_X11_laysSides_122 ?_
                      exact kk_sub [0, 1, 2, 3] rfl (hJ_27 v2_17 σ_19 h)
                · intro J_24 hJ_24 h
                  refine kk_icmp_ne e_X11_laysSides_111 (fun c_32 => ?_) (fun c_32 => ?_)
                  · replace h := h.1 c_32
                    refine kk_iconst ic_0 e_X11_laysSides_118 ?_
                    exact kk_sub [0, 1, 2, 3, 4, 5] rfl (hJ_24 (0 : Int32) h)
                  · replace h := h.2 c_32
                    refine kk_iconst ic_1 e_X11_laysSides_114 ?_
                    refine kk_goto e_X11_laysSides_115 ?_
                    exact kk_sub [0, 1, 2, 3, 4, 5] rfl (hJ_24 (1 : Int32) h)
              · intro J_22 hJ_22 h
                refine kk_icmp_ne e_X11_laysSides_95 (fun c_33 => ?_) (fun c_33 => ?_)
                · replace h := h.1 c_33
                  refine kk_iconst ic_0 e_X11_laysSides_102 ?_
                  exact kk_sub [2, 3, 4, 5, 1, 0] rfl (hJ_22 (0 : Int32) h)
                · replace h := h.2 c_33
                  refine kk_iconst ic_1 e_X11_laysSides_98 ?_
                  refine kk_goto e_X11_laysSides_99 ?_
                  exact kk_sub [2, 3, 4, 5, 1, 0] rfl (hJ_22 (1 : Int32) h)
        · replace h := h.2 c_36
          refine kk_goto e_X11_laysSides_43 ?_
          exact kk_sub [0, 1] rfl (hJ_12 σ_5 h)
  · replace h := h.2 c_39
    refine kk_aload_n 0 rfl e_X11_laysSides_10 ?_
    refine kk_getr e_X11_laysSides_11 fl_X11_46 rfl rfl ?_
    refine kk_iload_n 1 rfl e_X11_laysSides_14 ?_
    refine kk_iconst ic_m1 e_X11_laysSides_15 ?_
    refine kk_iast e_X11_laysSides_16 rfl h.1 ?_
    replace h := h.2
    refine kk_tops (fun σ_38 eσ_38 => ?_)
    replace h := h σ_38 eσ_38
    refine kk_iinc (lv' := [(1, .int (v1_1 + (1 : Int32))), (0, .ref (Z.2.1 0))]) e_X11_laysSides_17 (j := 1) rfl (ii_1 v1_1) (by decide) rfl ?_
    refine kk_goto e_X11_laysSides_20 ?_
    exact kk_sub [1, 0] rfl (hrec_3 (v1_1 + (1 : Int32)) σ_38 h)
theorem e_X11_line_0 : kk_d cX11_line 0 (.aload_n 0) 1 1 := ⟨by decide +kernel, rfl⟩
theorem e_X11_line_1 : kk_d cX11_line 1 (.iload_n 1) 1 2 := ⟨by decide +kernel, rfl⟩
theorem e_X11_line_2 : kk_d cX11_line 2 (.invokevirtual 106) 3 5 := ⟨by decide +kernel, rfl⟩
theorem e_X11_line_5 : kk_dj cX11_line 5 (.ifCond .eq 35) 3 (35) 8 40 := ⟨by decide +kernel, rfl, by decide⟩
theorem e_X11_line_40 : kk_d cX11_line 40 (.iconst (-1)) 1 41 := ⟨by decide +kernel, rfl⟩
theorem e_X11_line_41 : kk_d cX11_line 41 .ireturn 1 42 := ⟨by decide +kernel, rfl⟩
theorem e_X11_line_8 : kk_d cX11_line 8 (.aload_n 0) 1 9 := ⟨by decide +kernel, rfl⟩
theorem e_X11_line_9 : kk_d cX11_line 9 (.iload_n 2) 1 10 := ⟨by decide +kernel, rfl⟩
theorem e_X11_line_10 : kk_d cX11_line 10 (.invokevirtual 106) 3 13 := ⟨by decide +kernel, rfl⟩
theorem e_X11_line_13 : kk_dj cX11_line 13 (.ifCond .eq 27) 3 (27) 16 40 := ⟨by decide +kernel, rfl, by decide⟩
theorem e_X11_line_16 : kk_d cX11_line 16 (.iload_n 1) 1 17 := ⟨by decide +kernel, rfl⟩
theorem e_X11_line_17 : kk_d cX11_line 17 (.iload_n 2) 1 18 := ⟨by decide +kernel, rfl⟩
theorem e_X11_line_18 : kk_dj cX11_line 18 (.if_icmp .eq 22) 3 (22) 21 40 := ⟨by decide +kernel, rfl, by decide⟩
theorem e_X11_line_21 : kk_d cX11_line 21 (.aload_n 0) 1 22 := ⟨by decide +kernel, rfl⟩
theorem e_X11_line_22 : kk_d cX11_line 22 (.iload_n 1) 1 23 := ⟨by decide +kernel, rfl⟩
theorem e_X11_line_23 : kk_d cX11_line 23 (.iload_n 2) 1 24 := ⟨by decide +kernel, rfl⟩
theorem e_X11_line_24 : kk_d cX11_line 24 (.invokevirtual 110) 3 27 := ⟨by decide +kernel, rfl⟩
theorem e_X11_line_27 : kk_d cX11_line 27 (.iconst (-1)) 1 28 := ⟨by decide +kernel, rfl⟩
theorem e_X11_line_28 : kk_dj cX11_line 28 (.if_icmp .ne 12) 3 (12) 31 40 := ⟨by decide +kernel, rfl, by decide⟩
theorem e_X11_line_31 : kk_d cX11_line 31 (.aload_n 0) 1 32 := ⟨by decide +kernel, rfl⟩
theorem e_X11_line_32 : kk_d cX11_line 32 (.getfield 96) 3 35 := ⟨by decide +kernel, rfl⟩
theorem e_X11_line_35 : kk_d cX11_line 35 (.bipush 20) 2 37 := ⟨by decide +kernel, rfl⟩
theorem e_X11_line_37 : kk_dj cX11_line 37 (.if_icmp .ne 5) 3 (5) 40 42 := ⟨by decide +kernel, rfl, by decide⟩
theorem e_X11_line_42 : kk_d cX11_line 42 (.aload_n 0) 1 43 := ⟨by decide +kernel, rfl⟩
theorem e_X11_line_43 : kk_d cX11_line 43 (.getfield 24) 3 46 := ⟨by decide +kernel, rfl⟩
theorem e_X11_line_46 : kk_d cX11_line 46 (.aload_n 0) 1 47 := ⟨by decide +kernel, rfl⟩
theorem e_X11_line_47 : kk_d cX11_line 47 (.getfield 96) 3 50 := ⟨by decide +kernel, rfl⟩
theorem e_X11_line_50 : kk_d cX11_line 50 (.iload_n 1) 1 51 := ⟨by decide +kernel, rfl⟩
theorem e_X11_line_51 : kk_d cX11_line 51 (.iload_n 2) 1 52 := ⟨by decide +kernel, rfl⟩
theorem e_X11_line_52 : kk_dj cX11_line 52 (.if_icmp .ge 7) 3 (7) 55 59 := ⟨by decide +kernel, rfl, by decide⟩
theorem e_X11_line_60 : kk_d cX11_line 60 .iastore 1 61 := ⟨by decide +kernel, rfl⟩
theorem e_X11_line_61 : kk_d cX11_line 61 (.aload_n 0) 1 62 := ⟨by decide +kernel, rfl⟩
theorem e_X11_line_62 : kk_d cX11_line 62 (.getfield 28) 3 65 := ⟨by decide +kernel, rfl⟩
theorem e_X11_line_65 : kk_d cX11_line 65 (.aload_n 0) 1 66 := ⟨by decide +kernel, rfl⟩
theorem e_X11_line_66 : kk_d cX11_line 66 (.getfield 96) 3 69 := ⟨by decide +kernel, rfl⟩
theorem e_X11_line_69 : kk_d cX11_line 69 (.iload_n 1) 1 70 := ⟨by decide +kernel, rfl⟩
theorem e_X11_line_70 : kk_d cX11_line 70 (.iload_n 2) 1 71 := ⟨by decide +kernel, rfl⟩
theorem e_X11_line_71 : kk_dj cX11_line 71 (.if_icmp .ge 7) 3 (7) 74 78 := ⟨by decide +kernel, rfl, by decide⟩
theorem e_X11_line_79 : kk_d cX11_line 79 .iastore 1 80 := ⟨by decide +kernel, rfl⟩
theorem e_X11_line_80 : kk_d cX11_line 80 (.aload_n 0) 1 81 := ⟨by decide +kernel, rfl⟩
theorem e_X11_line_81 : kk_d cX11_line 81 (.getfield 31) 3 84 := ⟨by decide +kernel, rfl⟩
theorem e_X11_line_84 : kk_d cX11_line 84 (.aload_n 0) 1 85 := ⟨by decide +kernel, rfl⟩
theorem e_X11_line_85 : kk_d cX11_line 85 (.getfield 96) 3 88 := ⟨by decide +kernel, rfl⟩
theorem e_X11_line_88 : kk_d cX11_line 88 (.iconst (-1)) 1 89 := ⟨by decide +kernel, rfl⟩
theorem e_X11_line_89 : kk_d cX11_line 89 .iastore 1 90 := ⟨by decide +kernel, rfl⟩
theorem e_X11_line_90 : kk_d cX11_line 90 (.aload_n 0) 1 91 := ⟨by decide +kernel, rfl⟩
theorem e_X11_line_91 : kk_d cX11_line 91 (.getfield 34) 3 94 := ⟨by decide +kernel, rfl⟩
theorem e_X11_line_94 : kk_d cX11_line 94 (.aload_n 0) 1 95 := ⟨by decide +kernel, rfl⟩
theorem e_X11_line_95 : kk_d cX11_line 95 (.getfield 96) 3 98 := ⟨by decide +kernel, rfl⟩
theorem e_X11_line_98 : kk_d cX11_line 98 (.sipush 511) 3 101 := ⟨by decide +kernel, rfl⟩
theorem e_X11_line_101 : kk_d cX11_line 101 .iastore 1 102 := ⟨by decide +kernel, rfl⟩
theorem e_X11_line_102 : kk_d cX11_line 102 (.aload_n 0) 1 103 := ⟨by decide +kernel, rfl⟩
theorem e_X11_line_103 : kk_d cX11_line 103 (.getfield 37) 3 106 := ⟨by decide +kernel, rfl⟩
theorem e_X11_line_106 : kk_d cX11_line 106 (.aload_n 0) 1 107 := ⟨by decide +kernel, rfl⟩
theorem e_X11_line_107 : kk_d cX11_line 107 (.getfield 96) 3 110 := ⟨by decide +kernel, rfl⟩
theorem e_X11_line_110 : kk_d cX11_line 110 (.iconst (-1)) 1 111 := ⟨by decide +kernel, rfl⟩
theorem e_X11_line_111 : kk_d cX11_line 111 .iastore 1 112 := ⟨by decide +kernel, rfl⟩
theorem e_X11_line_112 : kk_d cX11_line 112 (.aload_n 0) 1 113 := ⟨by decide +kernel, rfl⟩
theorem e_X11_line_113 : kk_d cX11_line 113 .dup 1 114 := ⟨by decide +kernel, rfl⟩
theorem e_X11_line_114 : kk_d cX11_line 114 (.getfield 96) 3 117 := ⟨by decide +kernel, rfl⟩
theorem e_X11_line_117 : kk_d cX11_line 117 (.iconst 1) 1 118 := ⟨by decide +kernel, rfl⟩
theorem e_X11_line_118 : kk_d cX11_line 118 .iadd 1 119 := ⟨by decide +kernel, rfl⟩
theorem e_X11_line_119 : kk_d cX11_line 119 (.putfield 96) 3 122 := ⟨by decide +kernel, rfl⟩
theorem e_X11_line_122 : kk_d cX11_line 122 (.aload_n 0) 1 123 := ⟨by decide +kernel, rfl⟩
theorem e_X11_line_123 : kk_d cX11_line 123 (.getfield 96) 3 126 := ⟨by decide +kernel, rfl⟩
theorem e_X11_line_126 : kk_d cX11_line 126 (.iconst 1) 1 127 := ⟨by decide +kernel, rfl⟩
theorem e_X11_line_127 : kk_d cX11_line 127 .isub 1 128 := ⟨by decide +kernel, rfl⟩
theorem e_X11_line_128 : kk_d cX11_line 128 .ireturn 1 129 := ⟨by decide +kernel, rfl⟩
theorem e_X11_line_78 : kk_d cX11_line 78 (.iload_n 1) 1 79 := ⟨by decide +kernel, rfl⟩
theorem e_X11_line_74 : kk_d cX11_line 74 (.iload_n 2) 1 75 := ⟨by decide +kernel, rfl⟩
theorem e_X11_line_75 : kk_dj cX11_line 75 (.goto 4) 3 (4) 78 79 := ⟨by decide +kernel, rfl, by decide⟩
theorem e_X11_line_59 : kk_d cX11_line 59 (.iload_n 2) 1 60 := ⟨by decide +kernel, rfl⟩
theorem e_X11_line_55 : kk_d cX11_line 55 (.iload_n 1) 1 56 := ⟨by decide +kernel, rfl⟩
theorem e_X11_line_56 : kk_dj cX11_line 56 (.goto 4) 3 (4) 59 60 := ⟨by decide +kernel, rfl, by decide⟩
set_option maxRecDepth 4000 in
theorem s_X11_line (Z : kk_Z) (v1 : Int32) (v2 : Int32) (σ : kk_St) (Q : Int32 → kk_St → Prop) (h : f_X11_line v1 v2 σ Q) : kk_M Z sh_M yX11_line cX11_line 3 (some .int) (kk_R 4) [.ref (Z.2.1 0), .int v1, .int v2] σ (kk_Qi Z sh_M Q) := by
  unfold f_X11_line at h
  refine kk_met (own := RX11) (by decide) rfl (Nat.le_of_ble_eq_true rfl) rfl ?_
  refine kk_aload_n 0 rfl e_X11_line_0 ?_
  refine kk_iload_n 1 rfl e_X11_line_1 ?_
  refine kk_callVip (As := [.int v1]) (rest := []) e_X11_line_2 ml_X11_106 ⟨_, _, _, _, rfl, rfl⟩ rfl (kk_fitR (by decide) (by decide)) (Nat.le_of_ble_eq_true rfl) rfl (s_X11_isPost Z v1 σ _ h) (fun r_1 h => ?_)
  refine kk_jW0 (P := KK Z sh_M RX11 cX11_line 3 (some .int) (kk_R 4) (kk_Qi Z sh_M Q) 40 [] [] σ) h ?_ ?_
  · intro h
    refine kk_iconst ic_m1 e_X11_line_40 ?_
    exact kk_iret e_X11_line_41 h
  · intro J_2 hJ_2 h
    refine kk_if_eq e_X11_line_5 (fun c_21 => ?_) (fun c_21 => ?_)
    · replace h := h.1 c_21
      exact kk_sub [] rfl (hJ_2 h)
    · replace h := h.2 c_21
      refine kk_aload_n 0 rfl e_X11_line_8 ?_
      refine kk_iload_n 2 rfl e_X11_line_9 ?_
      refine kk_callVip (As := [.int v2]) (rest := []) e_X11_line_10 ml_X11_106 ⟨_, _, _, _, rfl, rfl⟩ rfl (kk_fitR (by decide) (by decide)) (Nat.le_of_ble_eq_true rfl) rfl (s_X11_isPost Z v2 σ _ h) (fun r_3 h => ?_)
      refine kk_if_eq e_X11_line_13 (fun c_20 => ?_) (fun c_20 => ?_)
      · replace h := h.1 c_20
        exact kk_sub [] rfl (hJ_2 h)
      · replace h := h.2 c_20
        refine kk_iload_n 1 rfl e_X11_line_16 ?_
        refine kk_iload_n 2 rfl e_X11_line_17 ?_
        refine kk_icmp_eq e_X11_line_18 (fun c_19 => ?_) (fun c_19 => ?_)
        · replace h := h.1 c_19
          exact kk_sub [] rfl (hJ_2 h)
        · replace h := h.2 c_19
          refine kk_aload_n 0 rfl e_X11_line_21 ?_
          refine kk_iload_n 1 rfl e_X11_line_22 ?_
          refine kk_iload_n 2 rfl e_X11_line_23 ?_
          refine kk_callVip (As := [.int v1, .int v2]) (rest := []) e_X11_line_24 ml_X11_110 ⟨_, _, _, _, rfl, rfl⟩ rfl (kk_fitR (by decide) (by decide)) (Nat.le_of_ble_eq_true rfl) rfl (s_X11_lineOf Z v1 v2 σ _ h) (fun r_4 h => ?_)
          refine kk_iconst ic_m1 e_X11_line_27 ?_
          refine kk_icmp_ne e_X11_line_28 (fun c_18 => ?_) (fun c_18 => ?_)
          · replace h := h.1 c_18
            exact kk_sub [] rfl (hJ_2 h)
          · replace h := h.2 c_18
            refine kk_aload_n 0 rfl e_X11_line_31 ?_
            refine kk_geti e_X11_line_32 fl_X11_96 rfl rfl ?_
            refine kk_bipush bp_20 e_X11_line_35 ?_
            refine kk_icmp_ne e_X11_line_37 (fun c_17 => ?_) (fun c_17 => ?_)
            · replace h := h.1 c_17
              refine kk_aload_n 0 rfl e_X11_line_42 ?_
              refine kk_getr e_X11_line_43 fl_X11_24 rfl rfl ?_
              refine kk_aload_n 0 rfl e_X11_line_46 ?_
              refine kk_geti e_X11_line_47 fl_X11_96 rfl rfl ?_
              refine kk_iload_n 1 rfl e_X11_line_50 ?_
              refine kk_iload_n 2 rfl e_X11_line_51 ?_
              refine kk_jW1 (P := fun (t_5 : Int32) => KK Z sh_M RX11 cX11_line 3 (some .int) (kk_R 4) (kk_Qi Z sh_M Q) 60 [(0, .ref (Z.2.1 0)), (1, .int v1), (2, .int v2)] [.int t_5, .int (σ.1 0 2), .ref (Z.2.1 1)] σ) h ?_ ?_
              · intro t_5 h
                refine kk_iast e_X11_line_60 rfl h.1 ?_
                replace h := h.2
                refine kk_tops (fun σ_7 eσ_7 => ?_)
                replace h := h σ_7 eσ_7
                refine kk_aload_n 0 rfl e_X11_line_61 ?_
                refine kk_getr e_X11_line_62 fl_X11_28 rfl rfl ?_
                refine kk_aload_n 0 rfl e_X11_line_65 ?_
                refine kk_geti e_X11_line_66 fl_X11_96 rfl rfl ?_
                refine kk_iload_n 1 rfl e_X11_line_69 ?_
                refine kk_iload_n 2 rfl e_X11_line_70 ?_
                refine kk_jW1 (P := fun (t_8 : Int32) => KK Z sh_M RX11 cX11_line 3 (some .int) (kk_R 4) (kk_Qi Z sh_M Q) 79 [(0, .ref (Z.2.1 0))] [.int t_8, .int (σ_7.1 0 2), .ref (Z.2.1 2)] σ_7) h ?_ ?_
                · intro t_8 h
                  refine kk_iast e_X11_line_79 rfl h.1 ?_
                  replace h := h.2
                  refine kk_tops (fun σ_10 eσ_10 => ?_)
                  replace h := h σ_10 eσ_10
                  refine kk_aload_n 0 rfl e_X11_line_80 ?_
                  refine kk_getr e_X11_line_81 fl_X11_31 rfl rfl ?_
                  refine kk_aload_n 0 rfl e_X11_line_84 ?_
                  refine kk_geti e_X11_line_85 fl_X11_96 rfl rfl ?_
                  refine kk_iconst ic_m1 e_X11_line_88 ?_
                  refine kk_iast e_X11_line_89 rfl h.1 ?_
                  replace h := h.2
                  refine kk_tops (fun σ_11 eσ_11 => ?_)
                  replace h := h σ_11 eσ_11
                  refine kk_aload_n 0 rfl e_X11_line_90 ?_
                  refine kk_getr e_X11_line_91 fl_X11_34 rfl rfl ?_
                  refine kk_aload_n 0 rfl e_X11_line_94 ?_
                  refine kk_geti e_X11_line_95 fl_X11_96 rfl rfl ?_
                  refine kk_sipush sp_511 e_X11_line_98 ?_
                  refine kk_iast e_X11_line_101 rfl h.1 ?_
                  replace h := h.2
                  refine kk_tops (fun σ_12 eσ_12 => ?_)
                  replace h := h σ_12 eσ_12
                  refine kk_aload_n 0 rfl e_X11_line_102 ?_
                  refine kk_getr e_X11_line_103 fl_X11_37 rfl rfl ?_
                  refine kk_aload_n 0 rfl e_X11_line_106 ?_
                  refine kk_geti e_X11_line_107 fl_X11_96 rfl rfl ?_
                  refine kk_iconst ic_m1 e_X11_line_110 ?_
                  refine kk_iast e_X11_line_111 rfl h.1 ?_
                  replace h := h.2
                  refine kk_tops (fun σ_13 eσ_13 => ?_)
                  replace h := h σ_13 eσ_13
                  refine kk_aload_n 0 rfl e_X11_line_112 ?_
                  refine kk_dup rfl e_X11_line_113 ?_
                  refine kk_geti e_X11_line_114 fl_X11_96 rfl rfl ?_
                  refine kk_iconst ic_1 e_X11_line_117 ?_
                  refine kk_iadd e_X11_line_118 ?_
                  refine kk_puti e_X11_line_119 fl_X11_96 fn_X11_2 rfl rfl ?_
                  refine kk_tops (fun σ_14 eσ_14 => ?_)
                  replace h := h σ_14 eσ_14
                  refine kk_aload_n 0 rfl e_X11_line_122 ?_
                  refine kk_geti e_X11_line_123 fl_X11_96 rfl rfl ?_
                  refine kk_iconst ic_1 e_X11_line_126 ?_
                  refine kk_isub e_X11_line_127 ?_
                  exact kk_iret e_X11_line_128 h
                · intro J_9 hJ_9 h
                  refine kk_icmp_ge e_X11_line_71 (fun c_15 => ?_) (fun c_15 => ?_)
                  · replace h := h.1 c_15
                    refine kk_iload_n 1 rfl e_X11_line_78 ?_
                    exact kk_sub [0] rfl (hJ_9 v1 h)
                  · replace h := h.2 c_15
                    refine kk_iload_n 2 rfl e_X11_line_74 ?_
                    refine kk_goto e_X11_line_75 ?_
                    exact kk_sub [0] rfl (hJ_9 v2 h)
              · intro J_6 hJ_6 h
                refine kk_icmp_ge e_X11_line_52 (fun c_16 => ?_) (fun c_16 => ?_)
                · replace h := h.1 c_16
                  refine kk_iload_n 2 rfl e_X11_line_59 ?_
                  exact kk_sub [0, 1, 2] rfl (hJ_6 v2 h)
                · replace h := h.2 c_16
                  refine kk_iload_n 1 rfl e_X11_line_55 ?_
                  refine kk_goto e_X11_line_56 ?_
                  exact kk_sub [0, 1, 2] rfl (hJ_6 v1 h)
            · replace h := h.2 c_17
              exact kk_sub [] rfl (hJ_2 h)
theorem e_X11_list_0 : kk_d cX11_list 0 (.aload_n 0) 1 1 := ⟨by decide +kernel, rfl⟩
theorem e_X11_list_1 : kk_d cX11_list 1 (.iload_n 1) 1 2 := ⟨by decide +kernel, rfl⟩
theorem e_X11_list_2 : kk_d cX11_list 2 (.invokevirtual 143) 3 5 := ⟨by decide +kernel, rfl⟩
theorem e_X11_list_5 : kk_dj cX11_list 5 (.ifCond .eq 14) 3 (14) 8 19 := ⟨by decide +kernel, rfl, by decide⟩
theorem e_X11_list_19 : kk_d cX11_list 19 (.iconst (-1)) 1 20 := ⟨by decide +kernel, rfl⟩
theorem e_X11_list_20 : kk_d cX11_list 20 .ireturn 1 21 := ⟨by decide +kernel, rfl⟩
theorem e_X11_list_8 : kk_d cX11_list 8 (.iload_n 2) 1 9 := ⟨by decide +kernel, rfl⟩
theorem e_X11_list_9 : kk_d cX11_list 9 (.iconst 0) 1 10 := ⟨by decide +kernel, rfl⟩
theorem e_X11_list_10 : kk_d cX11_list 10 (.sipush 511) 3 13 := ⟨by decide +kernel, rfl⟩
theorem e_X11_list_13 : kk_d cX11_list 13 (.invokestatic 92) 3 16 := ⟨by decide +kernel, rfl⟩
theorem e_X11_list_16 : kk_dj cX11_list 16 (.ifCond .ne 5) 3 (5) 19 21 := ⟨by decide +kernel, rfl, by decide⟩
theorem e_X11_list_21 : kk_d cX11_list 21 (.aload_n 0) 1 22 := ⟨by decide +kernel, rfl⟩
theorem e_X11_list_22 : kk_d cX11_list 22 (.getfield 34) 3 25 := ⟨by decide +kernel, rfl⟩
theorem e_X11_list_25 : kk_d cX11_list 25 (.iload_n 1) 1 26 := ⟨by decide +kernel, rfl⟩
theorem e_X11_list_26 : kk_d cX11_list 26 .iaload 1 27 := ⟨by decide +kernel, rfl⟩
theorem e_X11_list_27 : kk_d cX11_list 27 (.istore_n 3) 1 28 := ⟨by decide +kernel, rfl⟩
theorem e_X11_list_28 : kk_d cX11_list 28 (.aload_n 0) 1 29 := ⟨by decide +kernel, rfl⟩
theorem e_X11_list_29 : kk_d cX11_list 29 (.getfield 34) 3 32 := ⟨by decide +kernel, rfl⟩
theorem e_X11_list_32 : kk_d cX11_list 32 (.iload_n 1) 1 33 := ⟨by decide +kernel, rfl⟩
theorem e_X11_list_33 : kk_d cX11_list 33 (.iload_n 2) 1 34 := ⟨by decide +kernel, rfl⟩
theorem e_X11_list_34 : kk_d cX11_list 34 .iastore 1 35 := ⟨by decide +kernel, rfl⟩
theorem e_X11_list_35 : kk_d cX11_list 35 (.iload_n 3) 1 36 := ⟨by decide +kernel, rfl⟩
theorem e_X11_list_36 : kk_d cX11_list 36 .ireturn 1 37 := ⟨by decide +kernel, rfl⟩
set_option maxRecDepth 4000 in
theorem s_X11_list (Z : kk_Z) (v1 : Int32) (v2 : Int32) (σ : kk_St) (Q : Int32 → kk_St → Prop) (h : f_X11_list v1 v2 σ Q) : kk_M Z sh_M yX11_list cX11_list 4 (some .int) (kk_R 4) [.ref (Z.2.1 0), .int v1, .int v2] σ (kk_Qi Z sh_M Q) := by
  unfold f_X11_list at h
  refine kk_met (own := RX11) (by decide) rfl (Nat.le_of_ble_eq_true rfl) rfl ?_
  refine kk_aload_n 0 rfl e_X11_list_0 ?_
  refine kk_iload_n 1 rfl e_X11_list_1 ?_
  refine kk_callVip (As := [.int v1]) (rest := []) e_X11_list_2 ml_X11_143 ⟨_, _, _, _, rfl, rfl⟩ rfl (kk_fitR (by decide) (by decide)) (Nat.le_of_ble_eq_true rfl) rfl (s_X11_isLine Z v1 σ _ h) (fun r_1 h => ?_)
  refine kk_jW0 (P := KK Z sh_M RX11 cX11_list 4 (some .int) (kk_R 4) (kk_Qi Z sh_M Q) 19 [] [] σ) h ?_ ?_
  · intro h
    refine kk_iconst ic_m1 e_X11_list_19 ?_
    exact kk_iret e_X11_list_20 h
  · intro J_2 hJ_2 h
    refine kk_if_eq e_X11_list_5 (fun c_6 => ?_) (fun c_6 => ?_)
    · replace h := h.1 c_6
      exact kk_sub [] rfl (hJ_2 h)
    · replace h := h.2 c_6
      refine kk_iload_n 2 rfl e_X11_list_8 ?_
      refine kk_iconst ic_0 e_X11_list_9 ?_
      refine kk_sipush sp_511 e_X11_list_10 ?_
      refine kk_callSip (As := [.int v2, .int (0 : Int32), .int (511 : Int32)]) (rest := []) e_X11_list_13 ml_X11_92 rfl (kk_fitR (by decide) (by decide)) (Nat.le_of_ble_eq_true rfl) rfl (s_X11_in Z v2 (0 : Int32) (511 : Int32) σ _ h) (fun r_3 h => ?_)
      refine kk_if_ne e_X11_list_16 (fun c_5 => ?_) (fun c_5 => ?_)
      · replace h := h.1 c_5
        refine kk_aload_n 0 rfl e_X11_list_21 ?_
        refine kk_getr e_X11_list_22 fl_X11_34 rfl rfl ?_
        refine kk_iload_n 1 rfl e_X11_list_25 ?_
        refine kk_iald e_X11_list_26 rfl h.1 ?_
        replace h := h.2
        refine kk_istore_n (lv' := [(3, .int (kk_rd σ 4 v1)), (0, .ref (Z.2.1 0)), (1, .int v1), (2, .int v2)]) e_X11_list_27 rfl (by decide) rfl ?_
        refine kk_aload_n 1 rfl e_X11_list_28 ?_
        refine kk_getr e_X11_list_29 fl_X11_34 rfl rfl ?_
        refine kk_iload_n 2 rfl e_X11_list_32 ?_
        refine kk_iload_n 3 rfl e_X11_list_33 ?_
        refine kk_iast e_X11_list_34 rfl h.1 ?_
        replace h := h.2
        refine kk_tops (fun σ_4 eσ_4 => ?_)
        replace h := h σ_4 eσ_4
        refine kk_iload_n 0 rfl e_X11_list_35 ?_
        exact kk_iret e_X11_list_36 h
      · replace h := h.2 c_5
        exact kk_sub [] rfl (hJ_2 h)
theorem e_X11_listed_0 : kk_d cX11_listed 0 (.aload_n 0) 1 1 := ⟨by decide +kernel, rfl⟩
theorem e_X11_listed_1 : kk_d cX11_listed 1 (.iload_n 1) 1 2 := ⟨by decide +kernel, rfl⟩
theorem e_X11_listed_2 : kk_d cX11_listed 2 (.invokevirtual 143) 3 5 := ⟨by decide +kernel, rfl⟩
theorem e_X11_listed_5 : kk_dj cX11_listed 5 (.ifCond .ne 5) 3 (5) 8 10 := ⟨by decide +kernel, rfl, by decide⟩
theorem e_X11_listed_10 : kk_d cX11_listed 10 (.aload_n 0) 1 11 := ⟨by decide +kernel, rfl⟩
theorem e_X11_listed_11 : kk_d cX11_listed 11 (.getfield 96) 3 14 := ⟨by decide +kernel, rfl⟩
theorem e_X11_listed_14 : kk_d cX11_listed 14 (.bipush 9) 2 16 := ⟨by decide +kernel, rfl⟩
theorem e_X11_listed_16 : kk_dj cX11_listed 16 (.if_icmp .le 6) 3 (6) 19 22 := ⟨by decide +kernel, rfl, by decide⟩
theorem e_X11_listed_22 : kk_d cX11_listed 22 (.iconst 0) 1 23 := ⟨by decide +kernel, rfl⟩
theorem e_X11_listed_23 : kk_d cX11_listed 23 (.istore_n 2) 1 24 := ⟨by decide +kernel, rfl⟩
theorem e_X11_listed_24 : kk_d cX11_listed 24 (.iload_n 2) 1 25 := ⟨by decide +kernel, rfl⟩
theorem e_X11_listed_25 : kk_d cX11_listed 25 (.aload_n 0) 1 26 := ⟨by decide +kernel, rfl⟩
theorem e_X11_listed_26 : kk_d cX11_listed 26 (.getfield 96) 3 29 := ⟨by decide +kernel, rfl⟩
theorem e_X11_listed_29 : kk_dj cX11_listed 29 (.if_icmp .ge 21) 3 (21) 32 50 := ⟨by decide +kernel, rfl, by decide⟩
theorem e_X11_listed_50 : kk_d cX11_listed 50 (.aload_n 0) 1 51 := ⟨by decide +kernel, rfl⟩
theorem e_X11_listed_51 : kk_d cX11_listed 51 (.iconst 0) 1 52 := ⟨by decide +kernel, rfl⟩
theorem e_X11_listed_52 : kk_d cX11_listed 52 (.putfield 213) 3 55 := ⟨by decide +kernel, rfl⟩
theorem e_X11_listed_55 : kk_d cX11_listed 55 (.aload_n 0) 1 56 := ⟨by decide +kernel, rfl⟩
theorem e_X11_listed_56 : kk_d cX11_listed 56 (.aload_n 0) 1 57 := ⟨by decide +kernel, rfl⟩
theorem e_X11_listed_57 : kk_d cX11_listed 57 (.invokevirtual 120) 3 60 := ⟨by decide +kernel, rfl⟩
theorem e_X11_listed_60 : kk_d cX11_listed 60 (.invokevirtual 244) 3 63 := ⟨by decide +kernel, rfl⟩
theorem e_X11_listed_63 : kk_dj cX11_listed 63 (.ifCond .eq 12) 3 (12) 66 75 := ⟨by decide +kernel, rfl, by decide⟩
theorem e_X11_listed_77 : kk_d cX11_listed 77 .ireturn 1 78 := ⟨by decide +kernel, rfl⟩
theorem e_X11_listed_75 : kk_d cX11_listed 75 (.bipush (-2)) 2 77 := ⟨by decide +kernel, rfl⟩
theorem e_X11_listed_66 : kk_d cX11_listed 66 (.aload_n 0) 1 67 := ⟨by decide +kernel, rfl⟩
theorem e_X11_listed_67 : kk_d cX11_listed 67 (.getfield 55) 3 70 := ⟨by decide +kernel, rfl⟩
theorem e_X11_listed_70 : kk_d cX11_listed 70 (.iload_n 1) 1 71 := ⟨by decide +kernel, rfl⟩
theorem e_X11_listed_71 : kk_d cX11_listed 71 .iaload 1 72 := ⟨by decide +kernel, rfl⟩
theorem e_X11_listed_72 : kk_dj cX11_listed 72 (.goto 5) 3 (5) 75 77 := ⟨by decide +kernel, rfl, by decide⟩
theorem e_X11_listed_32 : kk_d cX11_listed 32 (.aload_n 0) 1 33 := ⟨by decide +kernel, rfl⟩
theorem e_X11_listed_33 : kk_d cX11_listed 33 (.getfield 52) 3 36 := ⟨by decide +kernel, rfl⟩
theorem e_X11_listed_36 : kk_d cX11_listed 36 (.iload_n 2) 1 37 := ⟨by decide +kernel, rfl⟩
theorem e_X11_listed_37 : kk_d cX11_listed 37 (.aload_n 0) 1 38 := ⟨by decide +kernel, rfl⟩
theorem e_X11_listed_38 : kk_d cX11_listed 38 (.getfield 34) 3 41 := ⟨by decide +kernel, rfl⟩
theorem e_X11_listed_41 : kk_d cX11_listed 41 (.iload_n 2) 1 42 := ⟨by decide +kernel, rfl⟩
theorem e_X11_listed_42 : kk_d cX11_listed 42 .iaload 1 43 := ⟨by decide +kernel, rfl⟩
theorem e_X11_listed_43 : kk_d cX11_listed 43 .iastore 1 44 := ⟨by decide +kernel, rfl⟩
theorem e_X11_listed_44 : kk_d cX11_listed 44 (.iinc 2 1) 3 47 := ⟨by decide +kernel, rfl⟩
theorem e_X11_listed_47 : kk_dj cX11_listed 47 (.goto (-23)) 3 (-23) 50 24 := ⟨by decide +kernel, rfl, by decide⟩
theorem e_X11_listed_19 : kk_d cX11_listed 19 (.bipush (-3)) 2 21 := ⟨by decide +kernel, rfl⟩
theorem e_X11_listed_21 : kk_d cX11_listed 21 .ireturn 1 22 := ⟨by decide +kernel, rfl⟩
theorem e_X11_listed_8 : kk_d cX11_listed 8 (.iconst (-1)) 1 9 := ⟨by decide +kernel, rfl⟩
theorem e_X11_listed_9 : kk_d cX11_listed 9 .ireturn 1 10 := ⟨by decide +kernel, rfl⟩
set_option maxRecDepth 4000 in
theorem s_X11_listed (Z : kk_Z) (v1 : Int32) (σ : kk_St) (Q : Int32 → kk_St → Prop) (h : f_X11_listed v1 σ Q) : kk_M Z sh_M yX11_listed cX11_listed 3 (some .int) (kk_R 7) [.ref (Z.2.1 0), .int v1] σ (kk_Qi Z sh_M Q) := by
  unfold f_X11_listed at h
  refine kk_met (own := RX11) (by decide) rfl (Nat.le_of_ble_eq_true rfl) rfl ?_
  refine kk_aload_n 0 rfl e_X11_listed_0 ?_
  refine kk_iload_n 1 rfl e_X11_listed_1 ?_
  refine kk_callVip (As := [.int v1]) (rest := []) e_X11_listed_2 ml_X11_143 ⟨_, _, _, _, rfl, rfl⟩ rfl (kk_fitR (by decide) (by decide)) (Nat.le_of_ble_eq_true rfl) rfl (s_X11_isLine Z v1 σ _ h) (fun r_1 h => ?_)
  refine kk_if_ne e_X11_listed_5 (fun c_15 => ?_) (fun c_15 => ?_)
  · replace h := h.1 c_15
    refine kk_aload_n 0 rfl e_X11_listed_10 ?_
    refine kk_geti e_X11_listed_11 fl_X11_96 rfl rfl ?_
    refine kk_bipush bp_9 e_X11_listed_14 ?_
    refine kk_icmp_le e_X11_listed_16 (fun c_14 => ?_) (fun c_14 => ?_)
    · replace h := h.1 c_14
      refine kk_iconst ic_0 e_X11_listed_22 ?_
      refine kk_istore_n (lv' := [(2, .int (0 : Int32)), (0, .ref (Z.2.1 0)), (1, .int v1)]) e_X11_listed_23 rfl (by decide) rfl ?_
      refine kk_sub [1, 2, 0] rfl ?_
      refine kk_lpW2 (P := fun (v2_2 : Int32) (σ_3 : kk_St) => KK Z sh_M RX11 cX11_listed 3 (some .int) (kk_R 7) (kk_Qi Z sh_M Q) 24 [(0, .ref (Z.2.1 0)), (1, .int v1), (2, .int v2_2)] [] σ_3) ?_ h
      intro rec_4 hrec_4 v2_2 σ_3 h
      refine kk_iload_n 2 rfl e_X11_listed_24 ?_
      refine kk_aload_n 0 rfl e_X11_listed_25 ?_
      refine kk_geti e_X11_listed_26 fl_X11_96 rfl rfl ?_
      refine kk_icmp_ge e_X11_listed_29 (fun c_13 => ?_) (fun c_13 => ?_)
      · replace h := h.1 c_13
        refine kk_aload_n 0 rfl e_X11_listed_50 ?_
        refine kk_iconst ic_0 e_X11_listed_51 ?_
        refine kk_putz e_X11_listed_52 fl_X11_213 fn_X11_17 (Or.inl rfl) rfl rfl ?_
        refine kk_tops (fun σ_5 eσ_5 => ?_)
        replace h := h σ_5 eσ_5
        refine kk_aload_n 0 rfl e_X11_listed_55 ?_
        refine kk_aload_n 0 rfl e_X11_listed_56 ?_
        refine kk_callVip (As := []) (rest := [.ref (Z.2.1 0)]) e_X11_listed_57 ml_X11_120 ⟨_, _, _, _, rfl, rfl⟩ rfl (kk_fitR (by decide) (by decide)) (Nat.le_of_ble_eq_true rfl) rfl (s_X11_allLines Z σ_5 _ h) (fun r_6 h => ?_)
        refine kk_callVi (As := [.int r_6]) (rest := []) e_X11_listed_60 ml_X11_244 ⟨_, _, _, _, rfl, rfl⟩ rfl (kk_fitR (by decide) (by decide)) (Nat.le_of_ble_eq_true rfl) rfl (s_X11_picksFirst Z r_6 σ_5 _ h) (fun r_7 σ_8 h => ?_)
        refine kk_jW1 (P := fun (t_9 : Int32) => KK Z sh_M RX11 cX11_listed 3 (some .int) (kk_R 7) (kk_Qi Z sh_M Q) 77 [] [.int t_9] σ_8) h ?_ ?_
        · intro t_9 h
          exact kk_iret e_X11_listed_77 h
        · intro J_10 hJ_10 h
          refine kk_if_eq e_X11_listed_63 (fun c_11 => ?_) (fun c_11 => ?_)
          · replace h := h.1 c_11
            refine kk_bipush bp_m2 e_X11_listed_75 ?_
            exact kk_sub [] rfl (hJ_10 (-2 : Int32) h)
          · replace h := h.2 c_11
            refine kk_aload_n 0 rfl e_X11_listed_66 ?_
            refine kk_getr e_X11_listed_67 fl_X11_55 rfl rfl ?_
            refine kk_iload_n 1 rfl e_X11_listed_70 ?_
            refine kk_iald e_X11_listed_71 rfl h.1 ?_
            replace h := h.2
            refine kk_goto e_X11_listed_72 ?_
            exact kk_sub [] rfl (hJ_10 (kk_rd σ_8 11 v1) h)
      · replace h := h.2 c_13
        refine kk_aload_n 0 rfl e_X11_listed_32 ?_
        refine kk_getr e_X11_listed_33 fl_X11_52 rfl rfl ?_
        refine kk_iload_n 2 rfl e_X11_listed_36 ?_
        refine kk_aload_n 0 rfl e_X11_listed_37 ?_
        refine kk_getr e_X11_listed_38 fl_X11_34 rfl rfl ?_
        refine kk_iload_n 2 rfl e_X11_listed_41 ?_
        refine kk_iald e_X11_listed_42 rfl h.1 ?_
        replace h := h.2
        refine kk_iast e_X11_listed_43 rfl h.1 ?_
        replace h := h.2
        refine kk_tops (fun σ_12 eσ_12 => ?_)
        replace h := h σ_12 eσ_12
        refine kk_iinc (lv' := [(2, .int (v2_2 + (1 : Int32))), (0, .ref (Z.2.1 0)), (1, .int v1)]) e_X11_listed_44 (j := 2) rfl (ii_1 v2_2) (by decide) rfl ?_
        refine kk_goto e_X11_listed_47 ?_
        exact kk_sub [1, 2, 0] rfl (hrec_4 (v2_2 + (1 : Int32)) σ_12 h)
    · replace h := h.2 c_14
      refine kk_bipush bp_m3 e_X11_listed_19 ?_
      exact kk_iret e_X11_listed_21 h
  · replace h := h.2 c_15
    refine kk_iconst ic_m1 e_X11_listed_8 ?_
    exact kk_iret e_X11_listed_9 h
theorem e_X11_longest_0 : kk_d cX11_longest 0 (.iload_n 1) 1 1 := ⟨by decide +kernel, rfl⟩
theorem e_X11_longest_1 : kk_d cX11_longest 1 (.iconst 0) 1 2 := ⟨by decide +kernel, rfl⟩
theorem e_X11_longest_2 : kk_d cX11_longest 2 (.iconst 3) 1 3 := ⟨by decide +kernel, rfl⟩
theorem e_X11_longest_3 : kk_d cX11_longest 3 (.invokestatic 92) 3 6 := ⟨by decide +kernel, rfl⟩
theorem e_X11_longest_6 : kk_dj cX11_longest 6 (.ifCond .ne 5) 3 (5) 9 11 := ⟨by decide +kernel, rfl, by decide⟩
theorem e_X11_longest_11 : kk_d cX11_longest 11 (.iconst 0) 1 12 := ⟨by decide +kernel, rfl⟩
theorem e_X11_longest_12 : kk_d cX11_longest 12 (.istore_n 2) 1 13 := ⟨by decide +kernel, rfl⟩
theorem e_X11_longest_13 : kk_d cX11_longest 13 (.iconst 0) 1 14 := ⟨by decide +kernel, rfl⟩
theorem e_X11_longest_14 : kk_d cX11_longest 14 (.istore_n 3) 1 15 := ⟨by decide +kernel, rfl⟩
theorem e_X11_longest_15 : kk_d cX11_longest 15 (.iconst 0) 1 16 := ⟨by decide +kernel, rfl⟩
theorem e_X11_longest_16 : kk_d cX11_longest 16 (.istore 4) 2 18 := ⟨by decide +kernel, rfl⟩
theorem e_X11_longest_18 : kk_d cX11_longest 18 (.iconst 0) 1 19 := ⟨by decide +kernel, rfl⟩
theorem e_X11_longest_19 : kk_d cX11_longest 19 (.istore 5) 2 21 := ⟨by decide +kernel, rfl⟩
theorem e_X11_longest_21 : kk_d cX11_longest 21 (.iconst 0) 1 22 := ⟨by decide +kernel, rfl⟩
theorem e_X11_longest_22 : kk_d cX11_longest 22 (.istore 6) 2 24 := ⟨by decide +kernel, rfl⟩
theorem e_X11_longest_24 : kk_d cX11_longest 24 (.iload 6) 2 26 := ⟨by decide +kernel, rfl⟩
theorem e_X11_longest_26 : kk_d cX11_longest 26 (.aload_n 0) 1 27 := ⟨by decide +kernel, rfl⟩
theorem e_X11_longest_27 : kk_d cX11_longest 27 (.invokevirtual 128) 3 30 := ⟨by decide +kernel, rfl⟩
theorem e_X11_longest_30 : kk_dj cX11_longest 30 (.if_icmp .gt 128) 3 (128) 33 158 := ⟨by decide +kernel, rfl, by decide⟩
theorem e_X11_longest_158 : kk_d cX11_longest 158 (.iload_n 2) 1 159 := ⟨by decide +kernel, rfl⟩
theorem e_X11_longest_159 : kk_dj cX11_longest 159 (.ifCond .ne 8) 3 (8) 162 167 := ⟨by decide +kernel, rfl, by decide⟩
theorem e_X11_longest_196 : kk_d cX11_longest 196 .ireturn 1 197 := ⟨by decide +kernel, rfl⟩
theorem e_X11_longest_167 : kk_d cX11_longest 167 (.iload_n 1) 1 168 := ⟨by decide +kernel, rfl⟩
theorem e_X11_longest_168 : kk_dj cX11_longest 168 (.ifCond .ne 7) 3 (7) 171 175 := ⟨by decide +kernel, rfl, by decide⟩
theorem e_X11_longest_175 : kk_d cX11_longest 175 (.iload_n 1) 1 176 := ⟨by decide +kernel, rfl⟩
theorem e_X11_longest_176 : kk_d cX11_longest 176 (.iconst 1) 1 177 := ⟨by decide +kernel, rfl⟩
theorem e_X11_longest_177 : kk_dj cX11_longest 177 (.if_icmp .ne 7) 3 (7) 180 184 := ⟨by decide +kernel, rfl, by decide⟩
theorem e_X11_longest_184 : kk_d cX11_longest 184 (.iload_n 1) 1 185 := ⟨by decide +kernel, rfl⟩
theorem e_X11_longest_185 : kk_d cX11_longest 185 (.iconst 2) 1 186 := ⟨by decide +kernel, rfl⟩
theorem e_X11_longest_186 : kk_dj cX11_longest 186 (.if_icmp .ne 8) 3 (8) 189 194 := ⟨by decide +kernel, rfl, by decide⟩
theorem e_X11_longest_194 : kk_d cX11_longest 194 (.iload 5) 2 196 := ⟨by decide +kernel, rfl⟩
theorem e_X11_longest_189 : kk_d cX11_longest 189 (.iload 4) 2 191 := ⟨by decide +kernel, rfl⟩
theorem e_X11_longest_191 : kk_dj cX11_longest 191 (.goto 5) 3 (5) 194 196 := ⟨by decide +kernel, rfl, by decide⟩
theorem e_X11_longest_180 : kk_d cX11_longest 180 (.iload_n 3) 1 181 := ⟨by decide +kernel, rfl⟩
theorem e_X11_longest_181 : kk_dj cX11_longest 181 (.goto 15) 3 (15) 184 196 := ⟨by decide +kernel, rfl, by decide⟩
theorem e_X11_longest_171 : kk_d cX11_longest 171 (.iload_n 2) 1 172 := ⟨by decide +kernel, rfl⟩
theorem e_X11_longest_172 : kk_dj cX11_longest 172 (.goto 24) 3 (24) 175 196 := ⟨by decide +kernel, rfl, by decide⟩
theorem e_X11_longest_162 : kk_d cX11_longest 162 (.bipush (-2)) 2 164 := ⟨by decide +kernel, rfl⟩
theorem e_X11_longest_164 : kk_dj cX11_longest 164 (.goto 32) 3 (32) 167 196 := ⟨by decide +kernel, rfl, by decide⟩
theorem e_X11_longest_33 : kk_d cX11_longest 33 (.iload 6) 2 35 := ⟨by decide +kernel, rfl⟩
theorem e_X11_longest_35 : kk_d cX11_longest 35 (.iconst 1) 1 36 := ⟨by decide +kernel, rfl⟩
theorem e_X11_longest_36 : kk_d cX11_longest 36 .iadd 1 37 := ⟨by decide +kernel, rfl⟩
theorem e_X11_longest_37 : kk_d cX11_longest 37 (.istore 7) 2 39 := ⟨by decide +kernel, rfl⟩
theorem e_X11_longest_39 : kk_d cX11_longest 39 (.iload 7) 2 41 := ⟨by decide +kernel, rfl⟩
theorem e_X11_longest_41 : kk_d cX11_longest 41 (.aload_n 0) 1 42 := ⟨by decide +kernel, rfl⟩
theorem e_X11_longest_42 : kk_d cX11_longest 42 (.invokevirtual 128) 3 45 := ⟨by decide +kernel, rfl⟩
theorem e_X11_longest_45 : kk_dj cX11_longest 45 (.if_icmp .gt 107) 3 (107) 48 152 := ⟨by decide +kernel, rfl, by decide⟩
theorem e_X11_longest_152 : kk_d cX11_longest 152 (.iinc 6 1) 3 155 := ⟨by decide +kernel, rfl⟩
theorem e_X11_longest_155 : kk_dj cX11_longest 155 (.goto (-131)) 3 (-131) 158 24 := ⟨by decide +kernel, rfl, by decide⟩
theorem e_X11_longest_48 : kk_d cX11_longest 48 (.iconst 0) 1 49 := ⟨by decide +kernel, rfl⟩
theorem e_X11_longest_49 : kk_d cX11_longest 49 (.istore 8) 2 51 := ⟨by decide +kernel, rfl⟩
theorem e_X11_longest_51 : kk_d cX11_longest 51 (.iload 8) 2 53 := ⟨by decide +kernel, rfl⟩
theorem e_X11_longest_53 : kk_d cX11_longest 53 (.aload_n 0) 1 54 := ⟨by decide +kernel, rfl⟩
theorem e_X11_longest_54 : kk_d cX11_longest 54 (.getfield 96) 3 57 := ⟨by decide +kernel, rfl⟩
theorem e_X11_longest_57 : kk_dj cX11_longest 57 (.if_icmp .ge 89) 3 (89) 60 146 := ⟨by decide +kernel, rfl, by decide⟩
theorem e_X11_longest_146 : kk_d cX11_longest 146 (.iinc 7 1) 3 149 := ⟨by decide +kernel, rfl⟩
theorem e_X11_longest_149 : kk_dj cX11_longest 149 (.goto (-110)) 3 (-110) 152 39 := ⟨by decide +kernel, rfl, by decide⟩
theorem e_X11_longest_60 : kk_d cX11_longest 60 (.aload_n 0) 1 61 := ⟨by decide +kernel, rfl⟩
theorem e_X11_longest_61 : kk_d cX11_longest 61 (.getfield 31) 3 64 := ⟨by decide +kernel, rfl⟩
theorem e_X11_longest_64 : kk_d cX11_longest 64 (.iload 8) 2 66 := ⟨by decide +kernel, rfl⟩
theorem e_X11_longest_66 : kk_d cX11_longest 66 .iaload 1 67 := ⟨by decide +kernel, rfl⟩
theorem e_X11_longest_67 : kk_d cX11_longest 67 (.iload 6) 2 69 := ⟨by decide +kernel, rfl⟩
theorem e_X11_longest_69 : kk_dj cX11_longest 69 (.if_icmp .eq 18) 3 (18) 72 87 := ⟨by decide +kernel, rfl, by decide⟩
theorem e_X11_longest_140 : kk_d cX11_longest 140 (.iinc 8 1) 3 143 := ⟨by decide +kernel, rfl⟩
theorem e_X11_longest_143 : kk_dj cX11_longest 143 (.goto (-92)) 3 (-92) 146 51 := ⟨by decide +kernel, rfl, by decide⟩
theorem e_X11_longest_87 : kk_d cX11_longest 87 (.aload_n 0) 1 88 := ⟨by decide +kernel, rfl⟩
theorem e_X11_longest_88 : kk_d cX11_longest 88 (.aload_n 0) 1 89 := ⟨by decide +kernel, rfl⟩
theorem e_X11_longest_89 : kk_d cX11_longest 89 (.getfield 31) 3 92 := ⟨by decide +kernel, rfl⟩
theorem e_X11_longest_92 : kk_d cX11_longest 92 (.aload_n 0) 1 93 := ⟨by decide +kernel, rfl⟩
theorem e_X11_longest_93 : kk_d cX11_longest 93 (.getfield 24) 3 96 := ⟨by decide +kernel, rfl⟩
theorem e_X11_longest_96 : kk_d cX11_longest 96 (.iload 8) 2 98 := ⟨by decide +kernel, rfl⟩
theorem e_X11_longest_98 : kk_d cX11_longest 98 .iaload 1 99 := ⟨by decide +kernel, rfl⟩
theorem e_X11_longest_99 : kk_d cX11_longest 99 (.iload 6) 2 101 := ⟨by decide +kernel, rfl⟩
theorem e_X11_longest_101 : kk_d cX11_longest 101 (.iload 7) 2 103 := ⟨by decide +kernel, rfl⟩
theorem e_X11_longest_103 : kk_d cX11_longest 103 (.invokevirtual 152) 3 106 := ⟨by decide +kernel, rfl⟩
theorem e_X11_longest_106 : kk_d cX11_longest 106 (.istore 9) 2 108 := ⟨by decide +kernel, rfl⟩
theorem e_X11_longest_108 : kk_d cX11_longest 108 (.iload 9) 2 110 := ⟨by decide +kernel, rfl⟩
theorem e_X11_longest_110 : kk_d cX11_longest 110 (.invokestatic 160) 3 113 := ⟨by decide +kernel, rfl⟩
theorem e_X11_longest_113 : kk_d cX11_longest 113 (.iload_n 2) 1 114 := ⟨by decide +kernel, rfl⟩
theorem e_X11_longest_114 : kk_dj cX11_longest 114 (.if_icmp .gt 6) 3 (6) 117 120 := ⟨by decide +kernel, rfl, by decide⟩
theorem e_X11_longest_120 : kk_d cX11_longest 120 (.iload 9) 2 122 := ⟨by decide +kernel, rfl⟩
theorem e_X11_longest_122 : kk_d cX11_longest 122 (.invokestatic 160) 3 125 := ⟨by decide +kernel, rfl⟩
theorem e_X11_longest_125 : kk_d cX11_longest 125 (.istore_n 2) 1 126 := ⟨by decide +kernel, rfl⟩
theorem e_X11_longest_126 : kk_d cX11_longest 126 (.iload 6) 2 128 := ⟨by decide +kernel, rfl⟩
theorem e_X11_longest_128 : kk_d cX11_longest 128 (.istore_n 3) 1 129 := ⟨by decide +kernel, rfl⟩
theorem e_X11_longest_129 : kk_d cX11_longest 129 (.iload 7) 2 131 := ⟨by decide +kernel, rfl⟩
theorem e_X11_longest_131 : kk_d cX11_longest 131 (.istore 4) 2 133 := ⟨by decide +kernel, rfl⟩
theorem e_X11_longest_133 : kk_d cX11_longest 133 (.iload 9) 2 135 := ⟨by decide +kernel, rfl⟩
theorem e_X11_longest_135 : kk_d cX11_longest 135 (.invokestatic 166) 3 138 := ⟨by decide +kernel, rfl⟩
theorem e_X11_longest_138 : kk_d cX11_longest 138 (.istore 5) 2 140 := ⟨by decide +kernel, rfl⟩
theorem e_X11_longest_117 : kk_dj cX11_longest 117 (.goto 23) 3 (23) 120 140 := ⟨by decide +kernel, rfl, by decide⟩
theorem e_X11_longest_72 : kk_d cX11_longest 72 (.aload_n 0) 1 73 := ⟨by decide +kernel, rfl⟩
theorem e_X11_longest_73 : kk_d cX11_longest 73 (.getfield 31) 3 76 := ⟨by decide +kernel, rfl⟩
theorem e_X11_longest_76 : kk_d cX11_longest 76 (.iload 8) 2 78 := ⟨by decide +kernel, rfl⟩
theorem e_X11_longest_78 : kk_d cX11_longest 78 .iaload 1 79 := ⟨by decide +kernel, rfl⟩
theorem e_X11_longest_79 : kk_d cX11_longest 79 (.iload 7) 2 81 := ⟨by decide +kernel, rfl⟩
theorem e_X11_longest_81 : kk_dj cX11_longest 81 (.if_icmp .eq 6) 3 (6) 84 87 := ⟨by decide +kernel, rfl, by decide⟩
theorem e_X11_longest_84 : kk_dj cX11_longest 84 (.goto 56) 3 (56) 87 140 := ⟨by decide +kernel, rfl, by decide⟩
theorem e_X11_longest_9 : kk_d cX11_longest 9 (.iconst (-1)) 1 10 := ⟨by decide +kernel, rfl⟩
theorem e_X11_longest_10 : kk_d cX11_longest 10 .ireturn 1 11 := ⟨by decide +kernel, rfl⟩
set_option maxRecDepth 4000 in
theorem s_X11_longest (Z : kk_Z) (v1 : Int32) (σ : kk_St) (Q : Int32 → kk_St → Prop) (h : f_X11_longest v1 σ Q) : kk_M Z sh_M yX11_longest cX11_longest 10 (some .int) (kk_R 6) [.ref (Z.2.1 0), .int v1] σ (kk_Qi Z sh_M Q) := by
  unfold f_X11_longest at h
  refine kk_met (own := RX11) (by decide) rfl (Nat.le_of_ble_eq_true rfl) rfl ?_
  refine kk_iload_n 1 rfl e_X11_longest_0 ?_
  refine kk_iconst ic_0 e_X11_longest_1 ?_
  refine kk_iconst ic_3 e_X11_longest_2 ?_
  refine kk_callSip (As := [.int v1, .int (0 : Int32), .int (3 : Int32)]) (rest := []) e_X11_longest_3 ml_X11_92 rfl (kk_fitR (by decide) (by decide)) (Nat.le_of_ble_eq_true rfl) rfl (s_X11_in Z v1 (0 : Int32) (3 : Int32) σ _ h) (fun r_1 h => ?_)
  refine kk_if_ne e_X11_longest_6 (fun c_49 => ?_) (fun c_49 => ?_)
  · replace h := h.1 c_49
    refine kk_iconst ic_0 e_X11_longest_11 ?_
    refine kk_istore_n (lv' := [(2, .int (0 : Int32)), (0, .ref (Z.2.1 0)), (1, .int v1)]) e_X11_longest_12 rfl (by decide) rfl ?_
    refine kk_iconst ic_0 e_X11_longest_13 ?_
    refine kk_istore_n (lv' := [(3, .int (0 : Int32)), (2, .int (0 : Int32)), (0, .ref (Z.2.1 0)), (1, .int v1)]) e_X11_longest_14 rfl (by decide) rfl ?_
    refine kk_iconst ic_0 e_X11_longest_15 ?_
    refine kk_istore (lv' := [(4, .int (0 : Int32)), (3, .int (0 : Int32)), (2, .int (0 : Int32)), (0, .ref (Z.2.1 0)), (1, .int v1)]) e_X11_longest_16 (by decide) rfl ?_
    refine kk_iconst ic_0 e_X11_longest_18 ?_
    refine kk_istore (lv' := [(5, .int (0 : Int32)), (4, .int (0 : Int32)), (3, .int (0 : Int32)), (2, .int (0 : Int32)), (0, .ref (Z.2.1 0)), (1, .int v1)]) e_X11_longest_19 (by decide) rfl ?_
    refine kk_iconst ic_0 e_X11_longest_21 ?_
    refine kk_istore (lv' := [(6, .int (0 : Int32)), (5, .int (0 : Int32)), (4, .int (0 : Int32)), (3, .int (0 : Int32)), (2, .int (0 : Int32)), (0, .ref (Z.2.1 0)), (1, .int v1)]) e_X11_longest_22 (by decide) rfl ?_
    refine kk_sub [5, 6, 4, 3, 2, 1, 0] rfl ?_
    refine kk_lpW6 (P := fun (v2_2 : Int32) (v3_3 : Int32) (v4_4 : Int32) (v5_5 : Int32) (v6_6 : Int32) (σ_7 : kk_St) => KK Z sh_M RX11 cX11_longest 10 (some .int) (kk_R 6) (kk_Qi Z sh_M Q) 24 [(0, .ref (Z.2.1 0)), (1, .int v1), (2, .int v2_2), (3, .int v3_3), (4, .int v4_4), (5, .int v5_5), (6, .int v6_6)] [] σ_7) ?_ h
    intro rec_8 hrec_8 v2_2 v3_3 v4_4 v5_5 v6_6 σ_7 h
    refine kk_iload 6 rfl e_X11_longest_24 ?_
    refine kk_aload_n 0 rfl e_X11_longest_26 ?_
    refine kk_callVip (As := []) (rest := [.int v6_6]) e_X11_longest_27 ml_X11_128 ⟨_, _, _, _, rfl, rfl⟩ rfl (kk_fitR (by decide) (by decide)) (Nat.le_of_ble_eq_true rfl) rfl (s_X11_degree Z σ_7 _ h) (fun r_9 h => ?_)
    refine kk_icmp_gt e_X11_longest_30 (fun c_48 => ?_) (fun c_48 => ?_)
    · replace h := h.1 c_48
      refine kk_iload_n 2 rfl e_X11_longest_158 ?_
      refine kk_jW1 (P := fun (t_10 : Int32) => KK Z sh_M RX11 cX11_longest 10 (some .int) (kk_R 6) (kk_Qi Z sh_M Q) 196 [] [.int t_10] σ_7) h ?_ ?_
      · intro t_10 h
        exact kk_iret e_X11_longest_196 h
      · intro J_11 hJ_11 h
        refine kk_if_ne e_X11_longest_159 (fun c_15 => ?_) (fun c_15 => ?_)
        · replace h := h.1 c_15
          refine kk_iload_n 1 rfl e_X11_longest_167 ?_
          refine kk_if_ne e_X11_longest_168 (fun c_14 => ?_) (fun c_14 => ?_)
          · replace h := h.1 c_14
            refine kk_iload_n 1 rfl e_X11_longest_175 ?_
            refine kk_iconst ic_1 e_X11_longest_176 ?_
            refine kk_icmp_ne e_X11_longest_177 (fun c_13 => ?_) (fun c_13 => ?_)
            · replace h := h.1 c_13
              refine kk_iload_n 1 rfl e_X11_longest_184 ?_
              refine kk_iconst ic_2 e_X11_longest_185 ?_
              refine kk_icmp_ne e_X11_longest_186 (fun c_12 => ?_) (fun c_12 => ?_)
              · replace h := h.1 c_12
                refine kk_iload 5 rfl e_X11_longest_194 ?_
                exact kk_sub [] rfl (hJ_11 v5_5 h)
              · replace h := h.2 c_12
                refine kk_iload 4 rfl e_X11_longest_189 ?_
                refine kk_goto e_X11_longest_191 ?_
                exact kk_sub [] rfl (hJ_11 v4_4 h)
            · replace h := h.2 c_13
              refine kk_iload_n 3 rfl e_X11_longest_180 ?_
              refine kk_goto e_X11_longest_181 ?_
              exact kk_sub [] rfl (hJ_11 v3_3 h)
          · replace h := h.2 c_14
            refine kk_iload_n 2 rfl e_X11_longest_171 ?_
            refine kk_goto e_X11_longest_172 ?_
            exact kk_sub [] rfl (hJ_11 v2_2 h)
        · replace h := h.2 c_15
          refine kk_bipush bp_m2 e_X11_longest_162 ?_
          refine kk_goto e_X11_longest_164 ?_
          exact kk_sub [] rfl (hJ_11 (-2 : Int32) h)
    · replace h := h.2 c_48
      refine kk_iload 6 rfl e_X11_longest_33 ?_
      refine kk_iconst ic_1 e_X11_longest_35 ?_
      refine kk_iadd e_X11_longest_36 ?_
      refine kk_istore (lv' := [(7, .int (v6_6 + (1 : Int32))), (0, .ref (Z.2.1 0)), (1, .int v1), (2, .int v2_2), (3, .int v3_3), (4, .int v4_4), (5, .int v5_5), (6, .int v6_6)]) e_X11_longest_37 (by decide) rfl ?_
      refine kk_sub [1, 2, 3, 4, 5, 6, 7, 0] rfl ?_
      refine kk_lpW6 (P := fun (v2_16 : Int32) (v3_17 : Int32) (v4_18 : Int32) (v5_19 : Int32) (v7_20 : Int32) (σ_21 : kk_St) => KK Z sh_M RX11 cX11_longest 10 (some .int) (kk_R 6) (kk_Qi Z sh_M Q) 39 [(0, .ref (Z.2.1 0)), (1, .int v1), (2, .int v2_16), (3, .int v3_17), (4, .int v4_18), (5, .int v5_19), (6, .int v6_6), (7, .int v7_20)] [] σ_21) ?_ h
      intro rec_22 hrec_22 v2_16 v3_17 v4_18 v5_19 v7_20 σ_21 h
      refine kk_iload 7 rfl e_X11_longest_39 ?_
      refine kk_aload_n 0 rfl e_X11_longest_41 ?_
      refine kk_callVip (As := []) (rest := [.int v7_20]) e_X11_longest_42 ml_X11_128 ⟨_, _, _, _, rfl, rfl⟩ rfl (kk_fitR (by decide) (by decide)) (Nat.le_of_ble_eq_true rfl) rfl (s_X11_degree Z σ_21 _ h) (fun r_23 h => ?_)
      refine kk_icmp_gt e_X11_longest_45 (fun c_47 => ?_) (fun c_47 => ?_)
      · replace h := h.1 c_47
        refine kk_iinc (lv' := [(6, .int (v6_6 + (1 : Int32))), (0, .ref (Z.2.1 0)), (1, .int v1), (2, .int v2_16), (3, .int v3_17), (4, .int v4_18), (5, .int v5_19), (7, .int v7_20)]) e_X11_longest_152 (j := 6) rfl (ii_1 v6_6) (by decide) rfl ?_
        refine kk_goto e_X11_longest_155 ?_
        exact kk_sub [1, 2, 3, 4, 5, 6, 0] rfl (hrec_8 v2_16 v3_17 v4_18 v5_19 (v6_6 + (1 : Int32)) σ_21 h)
      · replace h := h.2 c_47
        refine kk_iconst ic_0 e_X11_longest_48 ?_
        refine kk_istore (lv' := [(8, .int (0 : Int32)), (0, .ref (Z.2.1 0)), (1, .int v1), (2, .int v2_16), (3, .int v3_17), (4, .int v4_18), (5, .int v5_19), (6, .int v6_6), (7, .int v7_20)]) e_X11_longest_49 (by decide) rfl ?_
        refine kk_sub [1, 2, 3, 4, 5, 6, 7, 8, 0] rfl ?_
        refine kk_lpW6 (P := fun (v2_24 : Int32) (v3_25 : Int32) (v4_26 : Int32) (v5_27 : Int32) (v8_28 : Int32) (σ_29 : kk_St) => KK Z sh_M RX11 cX11_longest 10 (some .int) (kk_R 6) (kk_Qi Z sh_M Q) 51 [(0, .ref (Z.2.1 0)), (1, .int v1), (2, .int v2_24), (3, .int v3_25), (4, .int v4_26), (5, .int v5_27), (6, .int v6_6), (7, .int v7_20), (8, .int v8_28)] [] σ_29) ?_ h
        intro rec_30 hrec_30 v2_24 v3_25 v4_26 v5_27 v8_28 σ_29 h
        refine kk_iload 8 rfl e_X11_longest_51 ?_
        refine kk_aload_n 0 rfl e_X11_longest_53 ?_
        refine kk_geti e_X11_longest_54 fl_X11_96 rfl rfl ?_
        refine kk_icmp_ge e_X11_longest_57 (fun c_46 => ?_) (fun c_46 => ?_)
        · replace h := h.1 c_46
          refine kk_iinc (lv' := [(7, .int (v7_20 + (1 : Int32))), (0, .ref (Z.2.1 0)), (1, .int v1), (2, .int v2_24), (3, .int v3_25), (4, .int v4_26), (5, .int v5_27), (6, .int v6_6), (8, .int v8_28)]) e_X11_longest_146 (j := 7) rfl (ii_1 v7_20) (by decide) rfl ?_
          refine kk_goto e_X11_longest_149 ?_
          exact kk_sub [1, 2, 3, 4, 5, 6, 7, 0] rfl (hrec_22 v2_24 v3_25 v4_26 v5_27 (v7_20 + (1 : Int32)) σ_29 h)
        · replace h := h.2 c_46
          refine kk_aload_n 0 rfl e_X11_longest_60 ?_
          refine kk_getr e_X11_longest_61 fl_X11_31 rfl rfl ?_
          refine kk_iload 8 rfl e_X11_longest_64 ?_
          refine kk_iald e_X11_longest_66 rfl h.1 ?_
          replace h := h.2
          refine kk_iload 6 rfl e_X11_longest_67 ?_
          refine kk_jW5 (P := fun (v2_31 : Int32) (v3_32 : Int32) (v4_33 : Int32) (v5_34 : Int32) (σ_35 : kk_St) => KK Z sh_M RX11 cX11_longest 10 (some .int) (kk_R 6) (kk_Qi Z sh_M Q) 140 [(0, .ref (Z.2.1 0)), (1, .int v1), (2, .int v2_31), (3, .int v3_32), (4, .int v4_33), (5, .int v5_34), (6, .int v6_6), (7, .int v7_20), (8, .int v8_28)] [] σ_35) h ?_ ?_
          · intro v2_31 v3_32 v4_33 v5_34 σ_35 h
            refine kk_iinc (lv' := [(8, .int (v8_28 + (1 : Int32))), (0, .ref (Z.2.1 0)), (1, .int v1), (2, .int v2_31), (3, .int v3_32), (4, .int v4_33), (5, .int v5_34), (6, .int v6_6), (7, .int v7_20)]) e_X11_longest_140 (j := 8) rfl (ii_1 v8_28) (by decide) rfl ?_
            refine kk_goto e_X11_longest_143 ?_
            exact kk_sub [1, 2, 3, 4, 5, 6, 7, 8, 0] rfl (hrec_30 v2_31 v3_32 v4_33 v5_34 (v8_28 + (1 : Int32)) σ_35 h)
          · intro J_36 hJ_36 h
            refine kk_jW0 (P := KK Z sh_M RX11 cX11_longest 10 (some .int) (kk_R 6) (kk_Qi Z sh_M Q) 87 [(0, .ref (Z.2.1 0)), (1, .int v1), (2, .int v2_24), (3, .int v3_25), (4, .int v4_26), (5, .int v5_27), (6, .int v6_6), (7, .int v7_20), (8, .int v8_28)] [] σ_29) h ?_ ?_
            · intro h
              refine kk_aload_n 0 rfl e_X11_longest_87 ?_
              refine kk_aload_n 0 rfl e_X11_longest_88 ?_
              refine kk_getr e_X11_longest_89 fl_X11_31 rfl rfl ?_
              refine kk_aload_n 0 rfl e_X11_longest_92 ?_
              refine kk_getr e_X11_longest_93 fl_X11_24 rfl rfl ?_
              refine kk_iload 8 rfl e_X11_longest_96 ?_
              refine kk_iald e_X11_longest_98 rfl h.1 ?_
              replace h := h.2
              refine kk_iload 6 rfl e_X11_longest_99 ?_
              refine kk_iload 7 rfl e_X11_longest_101 ?_
              refine kk_callVi (As := [.ref (Z.2.1 3), .int (kk_rd σ_29 1 v8_28), .int v6_6, .int v7_20]) (rest := []) e_X11_longest_103 ml_X11_152 ⟨_, _, _, _, rfl, rfl⟩ rfl (kk_fitR (by decide) (by decide)) (Nat.le_of_ble_eq_true rfl) rfl (s_X11_chainIn Z 3 20 (kk_rd σ_29 1 v8_28) v6_6 v7_20 σ_29 _ rfl h) (fun r_38 σ_39 h => ?_)
              refine kk_istore (lv' := [(9, .int r_38), (0, .ref (Z.2.1 0)), (1, .int v1), (2, .int v2_24), (3, .int v3_25), (4, .int v4_26), (5, .int v5_27), (6, .int v6_6), (7, .int v7_20), (8, .int v8_28)]) e_X11_longest_106 (by decide) rfl ?_
              refine kk_iload 0 rfl e_X11_longest_108 ?_
              refine kk_callSip (As := [.int r_38]) (rest := []) e_X11_longest_110 ml_X11_160 rfl (kk_fitR (by decide) (by decide)) (Nat.le_of_ble_eq_true rfl) rfl (s_X11_bitsOf Z r_38 σ_39 _ h) (fun r_40 h => ?_)
              refine kk_iload_n 3 rfl e_X11_longest_113 ?_
              refine kk_icmp_gt e_X11_longest_114 (fun c_43 => ?_) (fun c_43 => ?_)
              · replace h := h.1 c_43
                refine kk_iload 0 rfl e_X11_longest_120 ?_
                refine kk_callSip (As := [.int r_38]) (rest := []) e_X11_longest_122 ml_X11_160 rfl (kk_fitR (by decide) (by decide)) (Nat.le_of_ble_eq_true rfl) rfl (s_X11_bitsOf Z r_38 σ_39 _ h) (fun r_41 h => ?_)
                refine kk_istore_n (lv' := [(2, .int r_41), (9, .int r_38), (0, .ref (Z.2.1 0)), (1, .int v1), (3, .int v3_25), (4, .int v4_26), (5, .int v5_27), (6, .int v6_6), (7, .int v7_20), (8, .int v8_28)]) e_X11_longest_125 rfl (by decide) rfl ?_
                refine kk_iload 7 rfl e_X11_longest_126 ?_
                refine kk_istore_n (lv' := [(3, .int v6_6), (2, .int r_41), (9, .int r_38), (0, .ref (Z.2.1 0)), (1, .int v1), (4, .int v4_26), (5, .int v5_27), (6, .int v6_6), (7, .int v7_20), (8, .int v8_28)]) e_X11_longest_128 rfl (by decide) rfl ?_
                refine kk_iload 8 rfl e_X11_longest_129 ?_
                refine kk_istore (lv' := [(4, .int v7_20), (3, .int v6_6), (2, .int r_41), (9, .int r_38), (0, .ref (Z.2.1 0)), (1, .int v1), (5, .int v5_27), (6, .int v6_6), (7, .int v7_20), (8, .int v8_28)]) e_X11_longest_131 (by decide) rfl ?_
                refine kk_iload 3 rfl e_X11_longest_133 ?_
                refine kk_callSip (As := [.int r_38]) (rest := []) e_X11_longest_135 ml_X11_166 rfl (kk_fitR (by decide) (by decide)) (Nat.le_of_ble_eq_true rfl) rfl (s_X11_lowestOf Z r_38 σ_39 _ h) (fun r_42 h => ?_)
                refine kk_istore (lv' := [(5, .int r_42), (4, .int v7_20), (3, .int v6_6), (2, .int r_41), (9, .int r_38), (0, .ref (Z.2.1 0)), (1, .int v1), (6, .int v6_6), (7, .int v7_20), (8, .int v8_28)]) e_X11_longest_138 (by decide) rfl ?_
                exact kk_sub [5, 6, 3, 2, 1, 0, 7, 8, 9] rfl (hJ_36 r_41 v6_6 v7_20 r_42 σ_39 h)
              · replace h := h.2 c_43
                refine kk_goto e_X11_longest_117 ?_
                exact kk_sub [1, 2, 3, 4, 5, 6, 7, 8, 9] rfl (hJ_36 v2_24 v3_25 v4_26 v5_27 σ_39 h)
            · intro J_37 hJ_37 h
              refine kk_icmp_eq e_X11_longest_69 (fun c_45 => ?_) (fun c_45 => ?_)
              · replace h := h.1 c_45
                exact kk_sub [0, 1, 2, 3, 4, 5, 6, 7, 8] rfl (hJ_37 h)
              · replace h := h.2 c_45
                refine kk_aload_n 0 rfl e_X11_longest_72 ?_
                refine kk_getr e_X11_longest_73 fl_X11_31 rfl rfl ?_
                refine kk_iload 8 rfl e_X11_longest_76 ?_
                refine kk_iald e_X11_longest_78 rfl h.1 ?_
                replace h := h.2
                refine kk_iload 7 rfl e_X11_longest_79 ?_
                refine kk_icmp_eq e_X11_longest_81 (fun c_44 => ?_) (fun c_44 => ?_)
                · replace h := h.1 c_44
                  exact kk_sub [0, 1, 2, 3, 4, 5, 6, 7, 8] rfl (hJ_37 h)
                · replace h := h.2 c_44
                  refine kk_goto e_X11_longest_84 ?_
                  exact kk_sub [0, 1, 2, 3, 4, 5, 6, 7, 8] rfl (hJ_36 v2_24 v3_25 v4_26 v5_27 σ_29 h)
  · replace h := h.2 c_49
    refine kk_iconst ic_m1 e_X11_longest_9 ?_
    exact kk_iret e_X11_longest_10 h
theorem e_X11_oddRound_0 : kk_d cX11_oddRound 0 (.bipush 19) 2 2 := ⟨by decide +kernel, rfl⟩
theorem e_X11_oddRound_2 : kk_d cX11_oddRound 2 (.istore_n 1) 1 3 := ⟨by decide +kernel, rfl⟩
theorem e_X11_oddRound_3 : kk_d cX11_oddRound 3 (.iconst 0) 1 4 := ⟨by decide +kernel, rfl⟩
theorem e_X11_oddRound_4 : kk_d cX11_oddRound 4 (.istore_n 2) 1 5 := ⟨by decide +kernel, rfl⟩
theorem e_X11_oddRound_5 : kk_d cX11_oddRound 5 (.iload_n 2) 1 6 := ⟨by decide +kernel, rfl⟩
theorem e_X11_oddRound_6 : kk_d cX11_oddRound 6 (.aload_n 0) 1 7 := ⟨by decide +kernel, rfl⟩
theorem e_X11_oddRound_7 : kk_d cX11_oddRound 7 (.getfield 21) 3 10 := ⟨by decide +kernel, rfl⟩
theorem e_X11_oddRound_10 : kk_dj cX11_oddRound 10 (.if_icmp .ge 214) 3 (214) 13 224 := ⟨by decide +kernel, rfl, by decide⟩
theorem e_X11_oddRound_224 : kk_d cX11_oddRound 224 (.iload_n 1) 1 225 := ⟨by decide +kernel, rfl⟩
theorem e_X11_oddRound_225 : kk_d cX11_oddRound 225 (.bipush 9) 2 227 := ⟨by decide +kernel, rfl⟩
theorem e_X11_oddRound_227 : kk_dj cX11_oddRound 227 (.if_icmp .le 7) 3 (7) 230 234 := ⟨by decide +kernel, rfl, by decide⟩
theorem e_X11_oddRound_235 : kk_d cX11_oddRound 235 .ireturn 1 236 := ⟨by decide +kernel, rfl⟩
theorem e_X11_oddRound_234 : kk_d cX11_oddRound 234 (.iload_n 1) 1 235 := ⟨by decide +kernel, rfl⟩
theorem e_X11_oddRound_230 : kk_d cX11_oddRound 230 (.iconst 0) 1 231 := ⟨by decide +kernel, rfl⟩
theorem e_X11_oddRound_231 : kk_dj cX11_oddRound 231 (.goto 4) 3 (4) 234 235 := ⟨by decide +kernel, rfl, by decide⟩
theorem e_X11_oddRound_13 : kk_d cX11_oddRound 13 (.iconst 0) 1 14 := ⟨by decide +kernel, rfl⟩
theorem e_X11_oddRound_14 : kk_d cX11_oddRound 14 (.istore_n 3) 1 15 := ⟨by decide +kernel, rfl⟩
theorem e_X11_oddRound_15 : kk_d cX11_oddRound 15 (.iload_n 3) 1 16 := ⟨by decide +kernel, rfl⟩
theorem e_X11_oddRound_16 : kk_d cX11_oddRound 16 (.bipush 18) 2 18 := ⟨by decide +kernel, rfl⟩
theorem e_X11_oddRound_18 : kk_dj cX11_oddRound 18 (.if_icmp .ge 28) 3 (28) 21 46 := ⟨by decide +kernel, rfl, by decide⟩
theorem e_X11_oddRound_46 : kk_d cX11_oddRound 46 (.iconst 0) 1 47 := ⟨by decide +kernel, rfl⟩
theorem e_X11_oddRound_47 : kk_d cX11_oddRound 47 (.istore_n 3) 1 48 := ⟨by decide +kernel, rfl⟩
theorem e_X11_oddRound_48 : kk_d cX11_oddRound 48 (.iload_n 3) 1 49 := ⟨by decide +kernel, rfl⟩
theorem e_X11_oddRound_49 : kk_d cX11_oddRound 49 (.bipush 18) 2 51 := ⟨by decide +kernel, rfl⟩
theorem e_X11_oddRound_51 : kk_dj cX11_oddRound 51 (.if_icmp .ge 142) 3 (142) 54 193 := ⟨by decide +kernel, rfl, by decide⟩
theorem e_X11_oddRound_193 : kk_d cX11_oddRound 193 (.aload_n 0) 1 194 := ⟨by decide +kernel, rfl⟩
theorem e_X11_oddRound_194 : kk_d cX11_oddRound 194 (.getfield 49) 3 197 := ⟨by decide +kernel, rfl⟩
theorem e_X11_oddRound_197 : kk_d cX11_oddRound 197 (.iconst 2) 1 198 := ⟨by decide +kernel, rfl⟩
theorem e_X11_oddRound_198 : kk_d cX11_oddRound 198 (.iload_n 2) 1 199 := ⟨by decide +kernel, rfl⟩
theorem e_X11_oddRound_199 : kk_d cX11_oddRound 199 .imul 1 200 := ⟨by decide +kernel, rfl⟩
theorem e_X11_oddRound_200 : kk_d cX11_oddRound 200 (.iconst 1) 1 201 := ⟨by decide +kernel, rfl⟩
theorem e_X11_oddRound_201 : kk_d cX11_oddRound 201 .iadd 1 202 := ⟨by decide +kernel, rfl⟩
theorem e_X11_oddRound_202 : kk_d cX11_oddRound 202 .iaload 1 203 := ⟨by decide +kernel, rfl⟩
theorem e_X11_oddRound_203 : kk_d cX11_oddRound 203 (.iload_n 1) 1 204 := ⟨by decide +kernel, rfl⟩
theorem e_X11_oddRound_204 : kk_dj cX11_oddRound 204 (.if_icmp .ge 14) 3 (14) 207 218 := ⟨by decide +kernel, rfl, by decide⟩
theorem e_X11_oddRound_218 : kk_d cX11_oddRound 218 (.iinc 2 1) 3 221 := ⟨by decide +kernel, rfl⟩
theorem e_X11_oddRound_221 : kk_dj cX11_oddRound 221 (.goto (-216)) 3 (-216) 224 5 := ⟨by decide +kernel, rfl, by decide⟩
theorem e_X11_oddRound_207 : kk_d cX11_oddRound 207 (.aload_n 0) 1 208 := ⟨by decide +kernel, rfl⟩
theorem e_X11_oddRound_208 : kk_d cX11_oddRound 208 (.getfield 49) 3 211 := ⟨by decide +kernel, rfl⟩
theorem e_X11_oddRound_211 : kk_d cX11_oddRound 211 (.iconst 2) 1 212 := ⟨by decide +kernel, rfl⟩
theorem e_X11_oddRound_212 : kk_d cX11_oddRound 212 (.iload_n 2) 1 213 := ⟨by decide +kernel, rfl⟩
theorem e_X11_oddRound_213 : kk_d cX11_oddRound 213 .imul 1 214 := ⟨by decide +kernel, rfl⟩
theorem e_X11_oddRound_214 : kk_d cX11_oddRound 214 (.iconst 1) 1 215 := ⟨by decide +kernel, rfl⟩
theorem e_X11_oddRound_215 : kk_d cX11_oddRound 215 .iadd 1 216 := ⟨by decide +kernel, rfl⟩
theorem e_X11_oddRound_216 : kk_d cX11_oddRound 216 .iaload 1 217 := ⟨by decide +kernel, rfl⟩
theorem e_X11_oddRound_217 : kk_d cX11_oddRound 217 (.istore_n 1) 1 218 := ⟨by decide +kernel, rfl⟩
theorem e_X11_oddRound_54 : kk_d cX11_oddRound 54 (.iconst 0) 1 55 := ⟨by decide +kernel, rfl⟩
theorem e_X11_oddRound_55 : kk_d cX11_oddRound 55 (.istore 4) 2 57 := ⟨by decide +kernel, rfl⟩
theorem e_X11_oddRound_57 : kk_d cX11_oddRound 57 (.iload 4) 2 59 := ⟨by decide +kernel, rfl⟩
theorem e_X11_oddRound_59 : kk_d cX11_oddRound 59 (.aload_n 0) 1 60 := ⟨by decide +kernel, rfl⟩
theorem e_X11_oddRound_60 : kk_d cX11_oddRound 60 (.getfield 96) 3 63 := ⟨by decide +kernel, rfl⟩
theorem e_X11_oddRound_63 : kk_dj cX11_oddRound 63 (.if_icmp .ge 124) 3 (124) 66 187 := ⟨by decide +kernel, rfl, by decide⟩
theorem e_X11_oddRound_187 : kk_d cX11_oddRound 187 (.iinc 3 1) 3 190 := ⟨by decide +kernel, rfl⟩
theorem e_X11_oddRound_190 : kk_dj cX11_oddRound 190 (.goto (-142)) 3 (-142) 193 48 := ⟨by decide +kernel, rfl, by decide⟩
theorem e_X11_oddRound_66 : kk_d cX11_oddRound 66 (.iconst 0) 1 67 := ⟨by decide +kernel, rfl⟩
theorem e_X11_oddRound_67 : kk_d cX11_oddRound 67 (.istore 5) 2 69 := ⟨by decide +kernel, rfl⟩
theorem e_X11_oddRound_69 : kk_d cX11_oddRound 69 (.iload 5) 2 71 := ⟨by decide +kernel, rfl⟩
theorem e_X11_oddRound_71 : kk_d cX11_oddRound 71 (.iconst 2) 1 72 := ⟨by decide +kernel, rfl⟩
theorem e_X11_oddRound_72 : kk_dj cX11_oddRound 72 (.if_icmp .ge 109) 3 (109) 75 181 := ⟨by decide +kernel, rfl, by decide⟩
theorem e_X11_oddRound_181 : kk_d cX11_oddRound 181 (.iinc 4 1) 3 184 := ⟨by decide +kernel, rfl⟩
theorem e_X11_oddRound_184 : kk_dj cX11_oddRound 184 (.goto (-127)) 3 (-127) 187 57 := ⟨by decide +kernel, rfl, by decide⟩
theorem e_X11_oddRound_75 : kk_d cX11_oddRound 75 (.iconst 2) 1 76 := ⟨by decide +kernel, rfl⟩
theorem e_X11_oddRound_76 : kk_d cX11_oddRound 76 (.aload_n 0) 1 77 := ⟨by decide +kernel, rfl⟩
theorem e_X11_oddRound_77 : kk_d cX11_oddRound 77 (.getfield 24) 3 80 := ⟨by decide +kernel, rfl⟩
theorem e_X11_oddRound_80 : kk_d cX11_oddRound 80 (.iload 4) 2 82 := ⟨by decide +kernel, rfl⟩
theorem e_X11_oddRound_82 : kk_d cX11_oddRound 82 .iaload 1 83 := ⟨by decide +kernel, rfl⟩
theorem e_X11_oddRound_83 : kk_d cX11_oddRound 83 .imul 1 84 := ⟨by decide +kernel, rfl⟩
theorem e_X11_oddRound_84 : kk_d cX11_oddRound 84 (.iload 5) 2 86 := ⟨by decide +kernel, rfl⟩
theorem e_X11_oddRound_86 : kk_d cX11_oddRound 86 .iadd 1 87 := ⟨by decide +kernel, rfl⟩
theorem e_X11_oddRound_87 : kk_d cX11_oddRound 87 (.istore 6) 2 89 := ⟨by decide +kernel, rfl⟩
theorem e_X11_oddRound_89 : kk_d cX11_oddRound 89 (.iconst 2) 1 90 := ⟨by decide +kernel, rfl⟩
theorem e_X11_oddRound_90 : kk_d cX11_oddRound 90 (.aload_n 0) 1 91 := ⟨by decide +kernel, rfl⟩
theorem e_X11_oddRound_91 : kk_d cX11_oddRound 91 (.getfield 28) 3 94 := ⟨by decide +kernel, rfl⟩
theorem e_X11_oddRound_94 : kk_d cX11_oddRound 94 (.iload 4) 2 96 := ⟨by decide +kernel, rfl⟩
theorem e_X11_oddRound_96 : kk_d cX11_oddRound 96 .iaload 1 97 := ⟨by decide +kernel, rfl⟩
theorem e_X11_oddRound_97 : kk_d cX11_oddRound 97 .imul 1 98 := ⟨by decide +kernel, rfl⟩
theorem e_X11_oddRound_98 : kk_d cX11_oddRound 98 (.iconst 1) 1 99 := ⟨by decide +kernel, rfl⟩
theorem e_X11_oddRound_99 : kk_d cX11_oddRound 99 .iadd 1 100 := ⟨by decide +kernel, rfl⟩
theorem e_X11_oddRound_100 : kk_d cX11_oddRound 100 (.iload 5) 2 102 := ⟨by decide +kernel, rfl⟩
theorem e_X11_oddRound_102 : kk_d cX11_oddRound 102 .isub 1 103 := ⟨by decide +kernel, rfl⟩
theorem e_X11_oddRound_103 : kk_d cX11_oddRound 103 (.istore 7) 2 105 := ⟨by decide +kernel, rfl⟩
theorem e_X11_oddRound_105 : kk_d cX11_oddRound 105 (.aload_n 0) 1 106 := ⟨by decide +kernel, rfl⟩
theorem e_X11_oddRound_106 : kk_d cX11_oddRound 106 (.getfield 49) 3 109 := ⟨by decide +kernel, rfl⟩
theorem e_X11_oddRound_109 : kk_d cX11_oddRound 109 (.iload 6) 2 111 := ⟨by decide +kernel, rfl⟩
theorem e_X11_oddRound_111 : kk_d cX11_oddRound 111 .iaload 1 112 := ⟨by decide +kernel, rfl⟩
theorem e_X11_oddRound_112 : kk_d cX11_oddRound 112 (.iconst 1) 1 113 := ⟨by decide +kernel, rfl⟩
theorem e_X11_oddRound_113 : kk_d cX11_oddRound 113 .iadd 1 114 := ⟨by decide +kernel, rfl⟩
theorem e_X11_oddRound_114 : kk_d cX11_oddRound 114 (.aload_n 0) 1 115 := ⟨by decide +kernel, rfl⟩
theorem e_X11_oddRound_115 : kk_d cX11_oddRound 115 (.getfield 49) 3 118 := ⟨by decide +kernel, rfl⟩
theorem e_X11_oddRound_118 : kk_d cX11_oddRound 118 (.iload 7) 2 120 := ⟨by decide +kernel, rfl⟩
theorem e_X11_oddRound_120 : kk_d cX11_oddRound 120 .iaload 1 121 := ⟨by decide +kernel, rfl⟩
theorem e_X11_oddRound_121 : kk_dj cX11_oddRound 121 (.if_icmp .ge 19) 3 (19) 124 140 := ⟨by decide +kernel, rfl, by decide⟩
theorem e_X11_oddRound_140 : kk_d cX11_oddRound 140 (.aload_n 0) 1 141 := ⟨by decide +kernel, rfl⟩
theorem e_X11_oddRound_141 : kk_d cX11_oddRound 141 (.getfield 49) 3 144 := ⟨by decide +kernel, rfl⟩
theorem e_X11_oddRound_144 : kk_d cX11_oddRound 144 (.iload 7) 2 146 := ⟨by decide +kernel, rfl⟩
theorem e_X11_oddRound_146 : kk_d cX11_oddRound 146 .iaload 1 147 := ⟨by decide +kernel, rfl⟩
theorem e_X11_oddRound_147 : kk_d cX11_oddRound 147 (.iconst 1) 1 148 := ⟨by decide +kernel, rfl⟩
theorem e_X11_oddRound_148 : kk_d cX11_oddRound 148 .iadd 1 149 := ⟨by decide +kernel, rfl⟩
theorem e_X11_oddRound_149 : kk_d cX11_oddRound 149 (.aload_n 0) 1 150 := ⟨by decide +kernel, rfl⟩
theorem e_X11_oddRound_150 : kk_d cX11_oddRound 150 (.getfield 49) 3 153 := ⟨by decide +kernel, rfl⟩
theorem e_X11_oddRound_153 : kk_d cX11_oddRound 153 (.iload 6) 2 155 := ⟨by decide +kernel, rfl⟩
theorem e_X11_oddRound_155 : kk_d cX11_oddRound 155 .iaload 1 156 := ⟨by decide +kernel, rfl⟩
theorem e_X11_oddRound_156 : kk_dj cX11_oddRound 156 (.if_icmp .ge 19) 3 (19) 159 175 := ⟨by decide +kernel, rfl, by decide⟩
theorem e_X11_oddRound_175 : kk_d cX11_oddRound 175 (.iinc 5 1) 3 178 := ⟨by decide +kernel, rfl⟩
theorem e_X11_oddRound_178 : kk_dj cX11_oddRound 178 (.goto (-109)) 3 (-109) 181 69 := ⟨by decide +kernel, rfl, by decide⟩
theorem e_X11_oddRound_159 : kk_d cX11_oddRound 159 (.aload_n 0) 1 160 := ⟨by decide +kernel, rfl⟩
theorem e_X11_oddRound_160 : kk_d cX11_oddRound 160 (.getfield 49) 3 163 := ⟨by decide +kernel, rfl⟩
theorem e_X11_oddRound_163 : kk_d cX11_oddRound 163 (.iload 6) 2 165 := ⟨by decide +kernel, rfl⟩
theorem e_X11_oddRound_165 : kk_d cX11_oddRound 165 (.aload_n 0) 1 166 := ⟨by decide +kernel, rfl⟩
theorem e_X11_oddRound_166 : kk_d cX11_oddRound 166 (.getfield 49) 3 169 := ⟨by decide +kernel, rfl⟩
theorem e_X11_oddRound_169 : kk_d cX11_oddRound 169 (.iload 7) 2 171 := ⟨by decide +kernel, rfl⟩
theorem e_X11_oddRound_171 : kk_d cX11_oddRound 171 .iaload 1 172 := ⟨by decide +kernel, rfl⟩
theorem e_X11_oddRound_172 : kk_d cX11_oddRound 172 (.iconst 1) 1 173 := ⟨by decide +kernel, rfl⟩
theorem e_X11_oddRound_173 : kk_d cX11_oddRound 173 .iadd 1 174 := ⟨by decide +kernel, rfl⟩
theorem e_X11_oddRound_174 : kk_d cX11_oddRound 174 .iastore 1 175 := ⟨by decide +kernel, rfl⟩
theorem e_X11_oddRound_124 : kk_d cX11_oddRound 124 (.aload_n 0) 1 125 := ⟨by decide +kernel, rfl⟩
theorem e_X11_oddRound_125 : kk_d cX11_oddRound 125 (.getfield 49) 3 128 := ⟨by decide +kernel, rfl⟩
theorem e_X11_oddRound_128 : kk_d cX11_oddRound 128 (.iload 7) 2 130 := ⟨by decide +kernel, rfl⟩
theorem e_X11_oddRound_130 : kk_d cX11_oddRound 130 (.aload_n 0) 1 131 := ⟨by decide +kernel, rfl⟩
theorem e_X11_oddRound_131 : kk_d cX11_oddRound 131 (.getfield 49) 3 134 := ⟨by decide +kernel, rfl⟩
theorem e_X11_oddRound_134 : kk_d cX11_oddRound 134 (.iload 6) 2 136 := ⟨by decide +kernel, rfl⟩
theorem e_X11_oddRound_136 : kk_d cX11_oddRound 136 .iaload 1 137 := ⟨by decide +kernel, rfl⟩
theorem e_X11_oddRound_137 : kk_d cX11_oddRound 137 (.iconst 1) 1 138 := ⟨by decide +kernel, rfl⟩
theorem e_X11_oddRound_138 : kk_d cX11_oddRound 138 .iadd 1 139 := ⟨by decide +kernel, rfl⟩
theorem e_X11_oddRound_139 : kk_d cX11_oddRound 139 .iastore 1 140 := ⟨by decide +kernel, rfl⟩
theorem e_X11_oddRound_21 : kk_d cX11_oddRound 21 (.aload_n 0) 1 22 := ⟨by decide +kernel, rfl⟩
theorem e_X11_oddRound_22 : kk_d cX11_oddRound 22 (.getfield 49) 3 25 := ⟨by decide +kernel, rfl⟩
theorem e_X11_oddRound_25 : kk_d cX11_oddRound 25 (.iload_n 3) 1 26 := ⟨by decide +kernel, rfl⟩
theorem e_X11_oddRound_26 : kk_d cX11_oddRound 26 (.iload_n 3) 1 27 := ⟨by decide +kernel, rfl⟩
theorem e_X11_oddRound_27 : kk_d cX11_oddRound 27 (.iconst 2) 1 28 := ⟨by decide +kernel, rfl⟩
theorem e_X11_oddRound_28 : kk_d cX11_oddRound 28 (.iload_n 2) 1 29 := ⟨by decide +kernel, rfl⟩
theorem e_X11_oddRound_29 : kk_d cX11_oddRound 29 .imul 1 30 := ⟨by decide +kernel, rfl⟩
theorem e_X11_oddRound_30 : kk_dj cX11_oddRound 30 (.if_icmp .ne 7) 3 (7) 33 37 := ⟨by decide +kernel, rfl, by decide⟩
theorem e_X11_oddRound_39 : kk_d cX11_oddRound 39 .iastore 1 40 := ⟨by decide +kernel, rfl⟩
theorem e_X11_oddRound_40 : kk_d cX11_oddRound 40 (.iinc 3 1) 3 43 := ⟨by decide +kernel, rfl⟩
theorem e_X11_oddRound_43 : kk_dj cX11_oddRound 43 (.goto (-28)) 3 (-28) 46 15 := ⟨by decide +kernel, rfl, by decide⟩
theorem e_X11_oddRound_37 : kk_d cX11_oddRound 37 (.bipush 99) 2 39 := ⟨by decide +kernel, rfl⟩
theorem e_X11_oddRound_33 : kk_d cX11_oddRound 33 (.iconst 0) 1 34 := ⟨by decide +kernel, rfl⟩
theorem e_X11_oddRound_34 : kk_dj cX11_oddRound 34 (.goto 5) 3 (5) 37 39 := ⟨by decide +kernel, rfl, by decide⟩
set_option maxRecDepth 4000 in
theorem s_X11_oddRound (Z : kk_Z) (σ : kk_St) (Q : Int32 → kk_St → Prop) (h : f_X11_oddRound σ Q) : kk_M Z sh_M yX11_oddRound cX11_oddRound 8 (some .int) (kk_R 2) [.ref (Z.2.1 0)] σ (kk_Qi Z sh_M Q) := by
  unfold f_X11_oddRound at h
  refine kk_met (own := RX11) (by decide) rfl (Nat.le_of_ble_eq_true rfl) rfl ?_
  refine kk_bipush bp_19 e_X11_oddRound_0 ?_
  refine kk_istore_n (lv' := [(1, .int (19 : Int32)), (0, .ref (Z.2.1 0))]) e_X11_oddRound_2 rfl (by decide) rfl ?_
  refine kk_iconst ic_0 e_X11_oddRound_3 ?_
  refine kk_istore_n (lv' := [(2, .int (0 : Int32)), (1, .int (19 : Int32)), (0, .ref (Z.2.1 0))]) e_X11_oddRound_4 rfl (by decide) rfl ?_
  refine kk_sub [2, 1, 0] rfl ?_
  refine kk_lpW3 (P := fun (v1_1 : Int32) (v2_2 : Int32) (σ_3 : kk_St) => KK Z sh_M RX11 cX11_oddRound 8 (some .int) (kk_R 2) (kk_Qi Z sh_M Q) 5 [(0, .ref (Z.2.1 0)), (1, .int v1_1), (2, .int v2_2)] [] σ_3) ?_ h
  intro rec_4 hrec_4 v1_1 v2_2 σ_3 h
  refine kk_iload_n 2 rfl e_X11_oddRound_5 ?_
  refine kk_aload_n 0 rfl e_X11_oddRound_6 ?_
  refine kk_geti e_X11_oddRound_7 fl_X11_21 rfl rfl ?_
  refine kk_icmp_ge e_X11_oddRound_10 (fun c_42 => ?_) (fun c_42 => ?_)
  · replace h := h.1 c_42
    refine kk_iload_n 1 rfl e_X11_oddRound_224 ?_
    refine kk_bipush bp_9 e_X11_oddRound_225 ?_
    refine kk_jW1 (P := fun (t_5 : Int32) => KK Z sh_M RX11 cX11_oddRound 8 (some .int) (kk_R 2) (kk_Qi Z sh_M Q) 235 [] [.int t_5] σ_3) h ?_ ?_
    · intro t_5 h
      exact kk_iret e_X11_oddRound_235 h
    · intro J_6 hJ_6 h
      refine kk_icmp_le e_X11_oddRound_227 (fun c_7 => ?_) (fun c_7 => ?_)
      · replace h := h.1 c_7
        refine kk_iload_n 1 rfl e_X11_oddRound_234 ?_
        exact kk_sub [] rfl (hJ_6 v1_1 h)
      · replace h := h.2 c_7
        refine kk_iconst ic_0 e_X11_oddRound_230 ?_
        refine kk_goto e_X11_oddRound_231 ?_
        exact kk_sub [] rfl (hJ_6 (0 : Int32) h)
  · replace h := h.2 c_42
    refine kk_iconst ic_0 e_X11_oddRound_13 ?_
    refine kk_istore_n (lv' := [(3, .int (0 : Int32)), (0, .ref (Z.2.1 0)), (1, .int v1_1), (2, .int v2_2)]) e_X11_oddRound_14 rfl (by decide) rfl ?_
    refine kk_sub [1, 2, 3, 0] rfl ?_
    refine kk_lpW2 (P := fun (v3_8 : Int32) (σ_9 : kk_St) => KK Z sh_M RX11 cX11_oddRound 8 (some .int) (kk_R 2) (kk_Qi Z sh_M Q) 15 [(0, .ref (Z.2.1 0)), (1, .int v1_1), (2, .int v2_2), (3, .int v3_8)] [] σ_9) ?_ h
    intro rec_10 hrec_10 v3_8 σ_9 h
    refine kk_iload_n 3 rfl e_X11_oddRound_15 ?_
    refine kk_bipush bp_18 e_X11_oddRound_16 ?_
    refine kk_icmp_ge e_X11_oddRound_18 (fun c_41 => ?_) (fun c_41 => ?_)
    · replace h := h.1 c_41
      refine kk_iconst ic_0 e_X11_oddRound_46 ?_
      refine kk_istore_n (lv' := [(3, .int (0 : Int32)), (0, .ref (Z.2.1 0)), (1, .int v1_1), (2, .int v2_2)]) e_X11_oddRound_47 rfl (by decide) rfl ?_
      refine kk_sub [1, 2, 3, 0] rfl ?_
      refine kk_lpW2 (P := fun (v3_11 : Int32) (σ_12 : kk_St) => KK Z sh_M RX11 cX11_oddRound 8 (some .int) (kk_R 2) (kk_Qi Z sh_M Q) 48 [(0, .ref (Z.2.1 0)), (1, .int v1_1), (2, .int v2_2), (3, .int v3_11)] [] σ_12) ?_ h
      intro rec_13 hrec_13 v3_11 σ_12 h
      refine kk_iload_n 3 rfl e_X11_oddRound_48 ?_
      refine kk_bipush bp_18 e_X11_oddRound_49 ?_
      refine kk_icmp_ge e_X11_oddRound_51 (fun c_36 => ?_) (fun c_36 => ?_)
      · replace h := h.1 c_36
        refine kk_aload_n 0 rfl e_X11_oddRound_193 ?_
        refine kk_getr e_X11_oddRound_194 fl_X11_49 rfl rfl ?_
        refine kk_iconst ic_2 e_X11_oddRound_197 ?_
        refine kk_iload_n 2 rfl e_X11_oddRound_198 ?_
        refine kk_imul e_X11_oddRound_199 ?_
        refine kk_iconst ic_1 e_X11_oddRound_200 ?_
        refine kk_iadd e_X11_oddRound_201 ?_
        refine kk_iald e_X11_oddRound_202 rfl h.1 ?_
        replace h := h.2
        refine kk_iload_n 1 rfl e_X11_oddRound_203 ?_
        refine kk_jW1 (P := fun (v1_14 : Int32) => KK Z sh_M RX11 cX11_oddRound 8 (some .int) (kk_R 2) (kk_Qi Z sh_M Q) 218 [(0, .ref (Z.2.1 0)), (1, .int v1_14), (2, .int v2_2)] [] σ_12) h ?_ ?_
        · intro v1_14 h
          refine kk_iinc (lv' := [(2, .int (v2_2 + (1 : Int32))), (0, .ref (Z.2.1 0)), (1, .int v1_14)]) e_X11_oddRound_218 (j := 2) rfl (ii_1 v2_2) (by decide) rfl ?_
          refine kk_goto e_X11_oddRound_221 ?_
          exact kk_sub [1, 2, 0] rfl (hrec_4 v1_14 (v2_2 + (1 : Int32)) σ_12 h)
        · intro J_15 hJ_15 h
          refine kk_icmp_ge e_X11_oddRound_204 (fun c_17 => ?_) (fun c_17 => ?_)
          · replace h := h.1 c_17
            exact kk_sub [0, 1, 2] rfl (hJ_15 v1_1 h)
          · replace h := h.2 c_17
            refine kk_aload_n 0 rfl e_X11_oddRound_207 ?_
            refine kk_getr e_X11_oddRound_208 fl_X11_49 rfl rfl ?_
            refine kk_iconst ic_2 e_X11_oddRound_211 ?_
            refine kk_iload_n 2 rfl e_X11_oddRound_212 ?_
            refine kk_imul e_X11_oddRound_213 ?_
            refine kk_iconst ic_1 e_X11_oddRound_214 ?_
            refine kk_iadd e_X11_oddRound_215 ?_
            refine kk_iald e_X11_oddRound_216 rfl h.1 ?_
            replace h := h.2
            refine kk_topi (fun v1_16 ev1_16 => ?_)
            replace h := h v1_16 ev1_16
            refine kk_istore_n (lv' := [(1, .int v1_16), (0, .ref (Z.2.1 0)), (2, .int v2_2), (3, .int v3_11)]) e_X11_oddRound_217 rfl (by decide) rfl ?_
            exact kk_sub [1, 0, 2] rfl (hJ_15 v1_16 h)
      · replace h := h.2 c_36
        refine kk_iconst ic_0 e_X11_oddRound_54 ?_
        refine kk_istore (lv' := [(4, .int (0 : Int32)), (0, .ref (Z.2.1 0)), (1, .int v1_1), (2, .int v2_2), (3, .int v3_11)]) e_X11_oddRound_55 (by decide) rfl ?_
        refine kk_sub [1, 2, 3, 4, 0] rfl ?_
        refine kk_lpW2 (P := fun (v4_18 : Int32) (σ_19 : kk_St) => KK Z sh_M RX11 cX11_oddRound 8 (some .int) (kk_R 2) (kk_Qi Z sh_M Q) 57 [(0, .ref (Z.2.1 0)), (1, .int v1_1), (2, .int v2_2), (3, .int v3_11), (4, .int v4_18)] [] σ_19) ?_ h
        intro rec_20 hrec_20 v4_18 σ_19 h
        refine kk_iload 4 rfl e_X11_oddRound_57 ?_
        refine kk_aload_n 0 rfl e_X11_oddRound_59 ?_
        refine kk_geti e_X11_oddRound_60 fl_X11_96 rfl rfl ?_
        refine kk_icmp_ge e_X11_oddRound_63 (fun c_35 => ?_) (fun c_35 => ?_)
        · replace h := h.1 c_35
          refine kk_iinc (lv' := [(3, .int (v3_11 + (1 : Int32))), (0, .ref (Z.2.1 0)), (1, .int v1_1), (2, .int v2_2), (4, .int v4_18)]) e_X11_oddRound_187 (j := 3) rfl (ii_1 v3_11) (by decide) rfl ?_
          refine kk_goto e_X11_oddRound_190 ?_
          exact kk_sub [1, 2, 3, 0] rfl (hrec_13 (v3_11 + (1 : Int32)) σ_19 h)
        · replace h := h.2 c_35
          refine kk_iconst ic_0 e_X11_oddRound_66 ?_
          refine kk_istore (lv' := [(5, .int (0 : Int32)), (0, .ref (Z.2.1 0)), (1, .int v1_1), (2, .int v2_2), (3, .int v3_11), (4, .int v4_18)]) e_X11_oddRound_67 (by decide) rfl ?_
          refine kk_sub [1, 2, 3, 4, 5, 0] rfl ?_
          refine kk_lpW2 (P := fun (v5_21 : Int32) (σ_22 : kk_St) => KK Z sh_M RX11 cX11_oddRound 8 (some .int) (kk_R 2) (kk_Qi Z sh_M Q) 69 [(0, .ref (Z.2.1 0)), (1, .int v1_1), (2, .int v2_2), (3, .int v3_11), (4, .int v4_18), (5, .int v5_21)] [] σ_22) ?_ h
          intro rec_23 hrec_23 v5_21 σ_22 h
          refine kk_iload 5 rfl e_X11_oddRound_69 ?_
          refine kk_iconst ic_2 e_X11_oddRound_71 ?_
          refine kk_icmp_ge e_X11_oddRound_72 (fun c_34 => ?_) (fun c_34 => ?_)
          · replace h := h.1 c_34
            refine kk_iinc (lv' := [(4, .int (v4_18 + (1 : Int32))), (0, .ref (Z.2.1 0)), (1, .int v1_1), (2, .int v2_2), (3, .int v3_11), (5, .int v5_21)]) e_X11_oddRound_181 (j := 4) rfl (ii_1 v4_18) (by decide) rfl ?_
            refine kk_goto e_X11_oddRound_184 ?_
            exact kk_sub [1, 2, 3, 4, 0] rfl (hrec_20 (v4_18 + (1 : Int32)) σ_22 h)
          · replace h := h.2 c_34
            refine kk_iconst ic_2 e_X11_oddRound_75 ?_
            refine kk_aload_n 0 rfl e_X11_oddRound_76 ?_
            refine kk_getr e_X11_oddRound_77 fl_X11_24 rfl rfl ?_
            refine kk_iload 4 rfl e_X11_oddRound_80 ?_
            refine kk_iald e_X11_oddRound_82 rfl h.1 ?_
            replace h := h.2
            refine kk_imul e_X11_oddRound_83 ?_
            refine kk_iload 5 rfl e_X11_oddRound_84 ?_
            refine kk_iadd e_X11_oddRound_86 ?_
            refine kk_topi (fun v6_24 ev6_24 => ?_)
            replace h := h v6_24 ev6_24
            refine kk_istore (lv' := [(6, .int v6_24), (0, .ref (Z.2.1 0)), (1, .int v1_1), (2, .int v2_2), (3, .int v3_11), (4, .int v4_18), (5, .int v5_21)]) e_X11_oddRound_87 (by decide) rfl ?_
            refine kk_iconst ic_2 e_X11_oddRound_89 ?_
            refine kk_aload_n 1 rfl e_X11_oddRound_90 ?_
            refine kk_getr e_X11_oddRound_91 fl_X11_28 rfl rfl ?_
            refine kk_iload 5 rfl e_X11_oddRound_94 ?_
            refine kk_iald e_X11_oddRound_96 rfl h.1 ?_
            replace h := h.2
            refine kk_imul e_X11_oddRound_97 ?_
            refine kk_iconst ic_1 e_X11_oddRound_98 ?_
            refine kk_iadd e_X11_oddRound_99 ?_
            refine kk_iload 6 rfl e_X11_oddRound_100 ?_
            refine kk_isub e_X11_oddRound_102 ?_
            refine kk_topi (fun v7_25 ev7_25 => ?_)
            replace h := h v7_25 ev7_25
            refine kk_istore (lv' := [(7, .int v7_25), (6, .int v6_24), (0, .ref (Z.2.1 0)), (1, .int v1_1), (2, .int v2_2), (3, .int v3_11), (4, .int v4_18), (5, .int v5_21)]) e_X11_oddRound_103 (by decide) rfl ?_
            refine kk_aload_n 2 rfl e_X11_oddRound_105 ?_
            refine kk_getr e_X11_oddRound_106 fl_X11_49 rfl rfl ?_
            refine kk_iload 1 rfl e_X11_oddRound_109 ?_
            refine kk_iald e_X11_oddRound_111 rfl h.1 ?_
            replace h := h.2
            refine kk_iconst ic_1 e_X11_oddRound_112 ?_
            refine kk_iadd e_X11_oddRound_113 ?_
            refine kk_aload_n 2 rfl e_X11_oddRound_114 ?_
            refine kk_getr e_X11_oddRound_115 fl_X11_49 rfl rfl ?_
            refine kk_iload 0 rfl e_X11_oddRound_118 ?_
            refine kk_iald e_X11_oddRound_120 rfl h.1 ?_
            replace h := h.2
            refine kk_jW1 (P := fun (σ_26 : kk_St) => KK Z sh_M RX11 cX11_oddRound 8 (some .int) (kk_R 2) (kk_Qi Z sh_M Q) 140 [(0, .ref (Z.2.1 0)), (1, .int v1_1), (2, .int v2_2), (3, .int v3_11), (4, .int v4_18), (5, .int v5_21), (6, .int v6_24), (7, .int v7_25)] [] σ_26) h ?_ ?_
            · intro σ_26 h
              refine kk_aload_n 0 rfl e_X11_oddRound_140 ?_
              refine kk_getr e_X11_oddRound_141 fl_X11_49 rfl rfl ?_
              refine kk_iload 7 rfl e_X11_oddRound_144 ?_
              refine kk_iald e_X11_oddRound_146 rfl h.1 ?_
              replace h := h.2
              refine kk_iconst ic_1 e_X11_oddRound_147 ?_
              refine kk_iadd e_X11_oddRound_148 ?_
              refine kk_aload_n 0 rfl e_X11_oddRound_149 ?_
              refine kk_getr e_X11_oddRound_150 fl_X11_49 rfl rfl ?_
              refine kk_iload 6 rfl e_X11_oddRound_153 ?_
              refine kk_iald e_X11_oddRound_155 rfl h.1 ?_
              replace h := h.2
              refine kk_jW1 (P := fun (σ_28 : kk_St) => KK Z sh_M RX11 cX11_oddRound 8 (some .int) (kk_R 2) (kk_Qi Z sh_M Q) 175 [(0, .ref (Z.2.1 0)), (1, .int v1_1), (2, .int v2_2), (3, .int v3_11), (4, .int v4_18), (5, .int v5_21)] [] σ_28) h ?_ ?_
              · intro σ_28 h
                refine kk_iinc (lv' := [(5, .int (v5_21 + (1 : Int32))), (0, .ref (Z.2.1 0)), (1, .int v1_1), (2, .int v2_2), (3, .int v3_11), (4, .int v4_18)]) e_X11_oddRound_175 (j := 5) rfl (ii_1 v5_21) (by decide) rfl ?_
                refine kk_goto e_X11_oddRound_178 ?_
                exact kk_sub [1, 2, 3, 4, 5, 0] rfl (hrec_23 (v5_21 + (1 : Int32)) σ_28 h)
              · intro J_29 hJ_29 h
                refine kk_icmp_ge e_X11_oddRound_156 (fun c_31 => ?_) (fun c_31 => ?_)
                · replace h := h.1 c_31
                  exact kk_sub [0, 1, 2, 3, 4, 5] rfl (hJ_29 σ_26 h)
                · replace h := h.2 c_31
                  refine kk_aload_n 0 rfl e_X11_oddRound_159 ?_
                  refine kk_getr e_X11_oddRound_160 fl_X11_49 rfl rfl ?_
                  refine kk_iload 6 rfl e_X11_oddRound_163 ?_
                  refine kk_aload_n 0 rfl e_X11_oddRound_165 ?_
                  refine kk_getr e_X11_oddRound_166 fl_X11_49 rfl rfl ?_
                  refine kk_iload 7 rfl e_X11_oddRound_169 ?_
                  refine kk_iald e_X11_oddRound_171 rfl h.1 ?_
                  replace h := h.2
                  refine kk_iconst ic_1 e_X11_oddRound_172 ?_
                  refine kk_iadd e_X11_oddRound_173 ?_
                  refine kk_iast e_X11_oddRound_174 rfl h.1 ?_
                  replace h := h.2
                  refine kk_tops (fun σ_30 eσ_30 => ?_)
                  replace h := h σ_30 eσ_30
                  exact kk_sub [0, 1, 2, 3, 4, 5] rfl (hJ_29 σ_30 h)
            · intro J_27 hJ_27 h
              refine kk_icmp_ge e_X11_oddRound_121 (fun c_33 => ?_) (fun c_33 => ?_)
              · replace h := h.1 c_33
                exact kk_sub [2, 3, 4, 5, 6, 7, 1, 0] rfl (hJ_27 σ_22 h)
              · replace h := h.2 c_33
                refine kk_aload_n 2 rfl e_X11_oddRound_124 ?_
                refine kk_getr e_X11_oddRound_125 fl_X11_49 rfl rfl ?_
                refine kk_iload 0 rfl e_X11_oddRound_128 ?_
                refine kk_aload_n 2 rfl e_X11_oddRound_130 ?_
                refine kk_getr e_X11_oddRound_131 fl_X11_49 rfl rfl ?_
                refine kk_iload 1 rfl e_X11_oddRound_134 ?_
                refine kk_iald e_X11_oddRound_136 rfl h.1 ?_
                replace h := h.2
                refine kk_iconst ic_1 e_X11_oddRound_137 ?_
                refine kk_iadd e_X11_oddRound_138 ?_
                refine kk_iast e_X11_oddRound_139 rfl h.1 ?_
                replace h := h.2
                refine kk_tops (fun σ_32 eσ_32 => ?_)
                replace h := h σ_32 eσ_32
                exact kk_sub [2, 3, 4, 5, 6, 7, 1, 0] rfl (hJ_27 σ_32 h)
    · replace h := h.2 c_41
      refine kk_aload_n 0 rfl e_X11_oddRound_21 ?_
      refine kk_getr e_X11_oddRound_22 fl_X11_49 rfl rfl ?_
      refine kk_iload_n 3 rfl e_X11_oddRound_25 ?_
      refine kk_iload_n 3 rfl e_X11_oddRound_26 ?_
      refine kk_iconst ic_2 e_X11_oddRound_27 ?_
      refine kk_iload_n 2 rfl e_X11_oddRound_28 ?_
      refine kk_imul e_X11_oddRound_29 ?_
      refine kk_jW1 (P := fun (t_37 : Int32) => KK Z sh_M RX11 cX11_oddRound 8 (some .int) (kk_R 2) (kk_Qi Z sh_M Q) 39 [(0, .ref (Z.2.1 0)), (1, .int v1_1), (2, .int v2_2), (3, .int v3_8)] [.int t_37, .int v3_8, .ref (Z.2.1 9)] σ_9) h ?_ ?_
      · intro t_37 h
        refine kk_iast e_X11_oddRound_39 rfl h.1 ?_
        replace h := h.2
        refine kk_tops (fun σ_39 eσ_39 => ?_)
        replace h := h σ_39 eσ_39
        refine kk_iinc (lv' := [(3, .int (v3_8 + (1 : Int32))), (0, .ref (Z.2.1 0)), (1, .int v1_1), (2, .int v2_2)]) e_X11_oddRound_40 (j := 3) rfl (ii_1 v3_8) (by decide) rfl ?_
        refine kk_goto e_X11_oddRound_43 ?_
        exact kk_sub [1, 2, 3, 0] rfl (hrec_10 (v3_8 + (1 : Int32)) σ_39 h)
      · intro J_38 hJ_38 h
        refine kk_icmp_ne e_X11_oddRound_30 (fun c_40 => ?_) (fun c_40 => ?_)
        · replace h := h.1 c_40
          refine kk_bipush bp_99 e_X11_oddRound_37 ?_
          exact kk_sub [0, 1, 2, 3] rfl (hJ_38 (99 : Int32) h)
        · replace h := h.2 c_40
          refine kk_iconst ic_0 e_X11_oddRound_33 ?_
          refine kk_goto e_X11_oddRound_34 ?_
          exact kk_sub [0, 1, 2, 3] rfl (hJ_38 (0 : Int32) h)
theorem e_X11_of_0 : kk_d cX11_of 0 (.aload_n 0) 1 1 := ⟨by decide +kernel, rfl⟩
theorem e_X11_of_1 : kk_d cX11_of 1 (.iload_n 1) 1 2 := ⟨by decide +kernel, rfl⟩
theorem e_X11_of_2 : kk_d cX11_of 2 (.invokevirtual 143) 3 5 := ⟨by decide +kernel, rfl⟩
theorem e_X11_of_5 : kk_dj cX11_of 5 (.ifCond .ne 5) 3 (5) 8 10 := ⟨by decide +kernel, rfl, by decide⟩
theorem e_X11_of_10 : kk_d cX11_of 10 (.iload_n 2) 1 11 := ⟨by decide +kernel, rfl⟩
theorem e_X11_of_11 : decode cX11_of 11 = .ok (.tableswitch 109 0 3 #[29, 36, 43, 64], 29) := by decide +kernel
theorem e_X11_of_40 : kk_d cX11_of 40 (.aload_n 0) 1 41 := ⟨by decide +kernel, rfl⟩
theorem e_X11_of_41 : kk_d cX11_of 41 (.getfield 24) 3 44 := ⟨by decide +kernel, rfl⟩
theorem e_X11_of_44 : kk_d cX11_of 44 (.iload_n 1) 1 45 := ⟨by decide +kernel, rfl⟩
theorem e_X11_of_45 : kk_d cX11_of 45 .iaload 1 46 := ⟨by decide +kernel, rfl⟩
theorem e_X11_of_46 : kk_d cX11_of 46 .ireturn 1 47 := ⟨by decide +kernel, rfl⟩
theorem e_X11_of_47 : kk_d cX11_of 47 (.aload_n 0) 1 48 := ⟨by decide +kernel, rfl⟩
theorem e_X11_of_48 : kk_d cX11_of 48 (.getfield 28) 3 51 := ⟨by decide +kernel, rfl⟩
theorem e_X11_of_51 : kk_d cX11_of 51 (.iload_n 1) 1 52 := ⟨by decide +kernel, rfl⟩
theorem e_X11_of_52 : kk_d cX11_of 52 .iaload 1 53 := ⟨by decide +kernel, rfl⟩
theorem e_X11_of_53 : kk_d cX11_of 53 .ireturn 1 54 := ⟨by decide +kernel, rfl⟩
theorem e_X11_of_54 : kk_d cX11_of 54 (.aload_n 0) 1 55 := ⟨by decide +kernel, rfl⟩
theorem e_X11_of_55 : kk_d cX11_of 55 (.getfield 31) 3 58 := ⟨by decide +kernel, rfl⟩
theorem e_X11_of_58 : kk_d cX11_of 58 (.iload_n 1) 1 59 := ⟨by decide +kernel, rfl⟩
theorem e_X11_of_59 : kk_d cX11_of 59 .iaload 1 60 := ⟨by decide +kernel, rfl⟩
theorem e_X11_of_60 : kk_dj cX11_of 60 (.ifCond .ge 8) 3 (8) 63 68 := ⟨by decide +kernel, rfl, by decide⟩
theorem e_X11_of_74 : kk_d cX11_of 74 .ireturn 1 75 := ⟨by decide +kernel, rfl⟩
theorem e_X11_of_68 : kk_d cX11_of 68 (.aload_n 0) 1 69 := ⟨by decide +kernel, rfl⟩
theorem e_X11_of_69 : kk_d cX11_of 69 (.getfield 31) 3 72 := ⟨by decide +kernel, rfl⟩
theorem e_X11_of_72 : kk_d cX11_of 72 (.iload_n 1) 1 73 := ⟨by decide +kernel, rfl⟩
theorem e_X11_of_73 : kk_d cX11_of 73 .iaload 1 74 := ⟨by decide +kernel, rfl⟩
theorem e_X11_of_63 : kk_d cX11_of 63 (.bipush (-2)) 2 65 := ⟨by decide +kernel, rfl⟩
theorem e_X11_of_65 : kk_dj cX11_of 65 (.goto 9) 3 (9) 68 74 := ⟨by decide +kernel, rfl, by decide⟩
theorem e_X11_of_75 : kk_d cX11_of 75 (.iconst 0) 1 76 := ⟨by decide +kernel, rfl⟩
theorem e_X11_of_76 : kk_d cX11_of 76 (.istore_n 3) 1 77 := ⟨by decide +kernel, rfl⟩
theorem e_X11_of_77 : kk_d cX11_of 77 (.iconst 0) 1 78 := ⟨by decide +kernel, rfl⟩
theorem e_X11_of_78 : kk_d cX11_of 78 (.istore 4) 2 80 := ⟨by decide +kernel, rfl⟩
theorem e_X11_of_80 : kk_d cX11_of 80 (.iload 4) 2 82 := ⟨by decide +kernel, rfl⟩
theorem e_X11_of_82 : kk_d cX11_of 82 (.aload_n 0) 1 83 := ⟨by decide +kernel, rfl⟩
theorem e_X11_of_83 : kk_d cX11_of 83 (.getfield 96) 3 86 := ⟨by decide +kernel, rfl⟩
theorem e_X11_of_86 : kk_dj cX11_of 86 (.if_icmp .ge 32) 3 (32) 89 118 := ⟨by decide +kernel, rfl, by decide⟩
theorem e_X11_of_118 : kk_d cX11_of 118 (.iload_n 3) 1 119 := ⟨by decide +kernel, rfl⟩
theorem e_X11_of_119 : kk_d cX11_of 119 .ireturn 1 120 := ⟨by decide +kernel, rfl⟩
theorem e_X11_of_89 : kk_d cX11_of 89 (.iload 4) 2 91 := ⟨by decide +kernel, rfl⟩
theorem e_X11_of_91 : kk_d cX11_of 91 (.iload_n 1) 1 92 := ⟨by decide +kernel, rfl⟩
theorem e_X11_of_92 : kk_dj cX11_of 92 (.if_icmp .eq 20) 3 (20) 95 112 := ⟨by decide +kernel, rfl, by decide⟩
theorem e_X11_of_112 : kk_d cX11_of 112 (.iinc 4 1) 3 115 := ⟨by decide +kernel, rfl⟩
theorem e_X11_of_115 : kk_dj cX11_of 115 (.goto (-35)) 3 (-35) 118 80 := ⟨by decide +kernel, rfl, by decide⟩
theorem e_X11_of_95 : kk_d cX11_of 95 (.aload_n 0) 1 96 := ⟨by decide +kernel, rfl⟩
theorem e_X11_of_96 : kk_d cX11_of 96 (.iload 4) 2 98 := ⟨by decide +kernel, rfl⟩
theorem e_X11_of_98 : kk_d cX11_of 98 (.iload_n 1) 1 99 := ⟨by decide +kernel, rfl⟩
theorem e_X11_of_99 : kk_d cX11_of 99 (.invokevirtual 259) 3 102 := ⟨by decide +kernel, rfl⟩
theorem e_X11_of_102 : kk_dj cX11_of 102 (.ifCond .eq 10) 3 (10) 105 112 := ⟨by decide +kernel, rfl, by decide⟩
theorem e_X11_of_105 : kk_d cX11_of 105 (.iload_n 3) 1 106 := ⟨by decide +kernel, rfl⟩
theorem e_X11_of_106 : kk_d cX11_of 106 (.iconst 1) 1 107 := ⟨by decide +kernel, rfl⟩
theorem e_X11_of_107 : kk_d cX11_of 107 (.iload 4) 2 109 := ⟨by decide +kernel, rfl⟩
theorem e_X11_of_109 : kk_d cX11_of 109 .ishl 1 110 := ⟨by decide +kernel, rfl⟩
theorem e_X11_of_110 : kk_d cX11_of 110 .ior 1 111 := ⟨by decide +kernel, rfl⟩
theorem e_X11_of_111 : kk_d cX11_of 111 (.istore_n 3) 1 112 := ⟨by decide +kernel, rfl⟩
theorem e_X11_of_120 : kk_d cX11_of 120 (.iconst (-1)) 1 121 := ⟨by decide +kernel, rfl⟩
theorem e_X11_of_121 : kk_d cX11_of 121 .ireturn 1 122 := ⟨by decide +kernel, rfl⟩
theorem e_X11_of_8 : kk_d cX11_of 8 (.iconst (-1)) 1 9 := ⟨by decide +kernel, rfl⟩
theorem e_X11_of_9 : kk_d cX11_of 9 .ireturn 1 10 := ⟨by decide +kernel, rfl⟩
set_option maxRecDepth 4000 in
theorem s_X11_of (Z : kk_Z) (v1 : Int32) (v2 : Int32) (σ : kk_St) (Q : Int32 → Prop) (h : f_X11_of v1 v2 σ Q) : kk_M Z sh_M yX11_of cX11_of 5 (some .int) (kk_R 4) [.ref (Z.2.1 0), .int v1, .int v2] σ (kk_Qi Z sh_M (fun r σ' => σ' = σ ∧ Q r)) := by
  unfold f_X11_of at h
  refine kk_met (own := RX11) (by decide) rfl (Nat.le_of_ble_eq_true rfl) rfl ?_
  refine kk_aload_n 0 rfl e_X11_of_0 ?_
  refine kk_iload_n 1 rfl e_X11_of_1 ?_
  refine kk_callVip (As := [.int v1]) (rest := []) e_X11_of_2 ml_X11_143 ⟨_, _, _, _, rfl, rfl⟩ rfl (kk_fitR (by decide) (by decide)) (Nat.le_of_ble_eq_true rfl) rfl (s_X11_isLine Z v1 σ _ h) (fun r_1 h => ?_)
  refine kk_if_ne e_X11_of_5 (fun c_15 => ?_) (fun c_15 => ?_)
  · replace h := h.1 c_15
    refine kk_iload_n 2 rfl e_X11_of_10 ?_
    rcases kk_swc v2 4 (by decide) with ⟨i, hi, hx⟩ | hx
    · rcases (show i = 0 ∨ i = 1 ∨ i = 2 ∨ i = 3 by omega) with rfl | rfl | rfl | rfl
      · replace h := h.1 hx
        refine kk_swIn (tgt := 40) e_X11_of_11 0 hx (by decide) (by decide) rfl (by decide) ?_
        refine kk_aload_n 0 rfl e_X11_of_40 ?_
        refine kk_getr e_X11_of_41 fl_X11_24 rfl rfl ?_
        refine kk_iload_n 1 rfl e_X11_of_44 ?_
        refine kk_iald e_X11_of_45 rfl h.1 ?_
        replace h := h.2
        exact kk_iret e_X11_of_46 ⟨rfl, h⟩
      · replace h := h.2.1 hx
        refine kk_swIn (tgt := 47) e_X11_of_11 1 hx (by decide) (by decide) rfl (by decide) ?_
        refine kk_aload_n 0 rfl e_X11_of_47 ?_
        refine kk_getr e_X11_of_48 fl_X11_28 rfl rfl ?_
        refine kk_iload_n 1 rfl e_X11_of_51 ?_
        refine kk_iald e_X11_of_52 rfl h.1 ?_
        replace h := h.2
        exact kk_iret e_X11_of_53 ⟨rfl, h⟩
      · replace h := h.2.2.1 hx
        refine kk_swIn (tgt := 54) e_X11_of_11 2 hx (by decide) (by decide) rfl (by decide) ?_
        refine kk_aload_n 0 rfl e_X11_of_54 ?_
        refine kk_getr e_X11_of_55 fl_X11_31 rfl rfl ?_
        refine kk_iload_n 1 rfl e_X11_of_58 ?_
        refine kk_iald e_X11_of_59 rfl h.1 ?_
        replace h := h.2
        refine kk_jW1 (P := fun (t_2 : Int32) => KK Z sh_M RX11 cX11_of 5 (some .int) (kk_R 4) (kk_Qi Z sh_M (fun r σ' => σ' = σ ∧ Q r)) 74 [] [.int t_2] σ) h ?_ ?_
        · intro t_2 h
          exact kk_iret e_X11_of_74 ⟨rfl, h⟩
        · intro J_3 hJ_3 h
          refine kk_if_ge e_X11_of_60 (fun c_4 => ?_) (fun c_4 => ?_)
          · replace h := h.1 c_4
            refine kk_aload_n 0 rfl e_X11_of_68 ?_
            refine kk_getr e_X11_of_69 fl_X11_31 rfl rfl ?_
            refine kk_iload_n 1 rfl e_X11_of_72 ?_
            refine kk_iald e_X11_of_73 rfl h.1 ?_
            replace h := h.2
            exact kk_sub [] rfl (hJ_3 (kk_rd σ 3 v1) h)
          · replace h := h.2 c_4
            refine kk_bipush bp_m2 e_X11_of_63 ?_
            refine kk_goto e_X11_of_65 ?_
            exact kk_sub [] rfl (hJ_3 (-2 : Int32) h)
      · replace h := h.2.2.2.1 hx
        refine kk_swIn (tgt := 75) e_X11_of_11 3 hx (by decide) (by decide) rfl (by decide) ?_
        refine kk_iconst ic_0 e_X11_of_75 ?_
        refine kk_istore_n (lv' := [(3, .int (0 : Int32)), (0, .ref (Z.2.1 0)), (1, .int v1), (2, .int v2)]) e_X11_of_76 rfl (by decide) rfl ?_
        refine kk_iconst ic_0 e_X11_of_77 ?_
        refine kk_istore (lv' := [(4, .int (0 : Int32)), (3, .int (0 : Int32)), (0, .ref (Z.2.1 0)), (1, .int v1), (2, .int v2)]) e_X11_of_78 (by decide) rfl ?_
        refine kk_sub [2, 3, 1, 0] rfl ?_
        refine kk_lpW2 (P := fun (v3_5 : Int32) (v4_6 : Int32) => KK Z sh_M RX11 cX11_of 5 (some .int) (kk_R 4) (kk_Qi Z sh_M (fun r σ' => σ' = σ ∧ Q r)) 80 [(0, .ref (Z.2.1 0)), (1, .int v1), (3, .int v3_5), (4, .int v4_6)] [] σ) ?_ h
        intro rec_7 hrec_7 v3_5 v4_6 h
        refine kk_iload 3 rfl e_X11_of_80 ?_
        refine kk_aload_n 0 rfl e_X11_of_82 ?_
        refine kk_geti e_X11_of_83 fl_X11_96 rfl rfl ?_
        refine kk_icmp_ge e_X11_of_86 (fun c_14 => ?_) (fun c_14 => ?_)
        · replace h := h.1 c_14
          refine kk_iload_n 2 rfl e_X11_of_118 ?_
          exact kk_iret e_X11_of_119 ⟨rfl, h⟩
        · replace h := h.2 c_14
          refine kk_iload 3 rfl e_X11_of_89 ?_
          refine kk_iload_n 1 rfl e_X11_of_91 ?_
          refine kk_jW1 (P := fun (v3_8 : Int32) => KK Z sh_M RX11 cX11_of 5 (some .int) (kk_R 4) (kk_Qi Z sh_M (fun r σ' => σ' = σ ∧ Q r)) 112 [(0, .ref (Z.2.1 0)), (1, .int v1), (3, .int v3_8), (4, .int v4_6)] [] σ) h ?_ ?_
          · intro v3_8 h
            refine kk_iinc (lv' := [(4, .int (v4_6 + (1 : Int32))), (0, .ref (Z.2.1 0)), (1, .int v1), (3, .int v3_8)]) e_X11_of_112 (j := 3) rfl (ii_1 v4_6) (by decide) rfl ?_
            refine kk_goto e_X11_of_115 ?_
            exact kk_sub [1, 2, 3, 0] rfl (hrec_7 v3_8 (v4_6 + (1 : Int32)) h)
          · intro J_9 hJ_9 h
            refine kk_icmp_eq e_X11_of_92 (fun c_13 => ?_) (fun c_13 => ?_)
            · replace h := h.1 c_13
              exact kk_sub [0, 1, 2, 3] rfl (hJ_9 v3_5 h)
            · replace h := h.2 c_13
              refine kk_aload_n 0 rfl e_X11_of_95 ?_
              refine kk_iload 3 rfl e_X11_of_96 ?_
              refine kk_iload_n 1 rfl e_X11_of_98 ?_
              refine kk_callVip (As := [.int v4_6, .int v1]) (rest := []) e_X11_of_99 ml_X11_259 ⟨_, _, _, _, rfl, rfl⟩ rfl (kk_fitR (by decide) (by decide)) (Nat.le_of_ble_eq_true rfl) rfl (s_X11_doMeet Z v4_6 v1 σ _ h) (fun r_10 h => ?_)
              refine kk_if_eq e_X11_of_102 (fun c_12 => ?_) (fun c_12 => ?_)
              · replace h := h.1 c_12
                exact kk_sub [0, 1, 2, 3] rfl (hJ_9 v3_5 h)
              · replace h := h.2 c_12
                refine kk_iload_n 2 rfl e_X11_of_105 ?_
                refine kk_iconst ic_1 e_X11_of_106 ?_
                refine kk_iload 3 rfl e_X11_of_107 ?_
                refine kk_ishl e_X11_of_109 ?_
                refine kk_ior e_X11_of_110 ?_
                refine kk_topi (fun v3_11 ev3_11 => ?_)
                replace h := h v3_11 ev3_11
                refine kk_istore_n (lv' := [(3, .int v3_11), (0, .ref (Z.2.1 0)), (1, .int v1), (4, .int v4_6)]) e_X11_of_111 rfl (by decide) rfl ?_
                exact kk_sub [1, 2, 0, 3] rfl (hJ_9 v3_11 h)
    · replace h := h.2.2.2.2 (by omega)
      refine kk_swOut (tgt := 120) e_X11_of_11 (by omega) (by decide) ?_
      refine kk_iconst ic_m1 e_X11_of_120 ?_
      exact kk_iret e_X11_of_121 ⟨rfl, h⟩
  · replace h := h.2 c_15
    refine kk_iconst ic_m1 e_X11_of_8 ?_
    exact kk_iret e_X11_of_9 ⟨rfl, h⟩
theorem e_X11_overfull_0 : kk_d cX11_overfull 0 (.iload_n 1) 1 1 := ⟨by decide +kernel, rfl⟩
theorem e_X11_overfull_1 : kk_d cX11_overfull 1 (.iconst 0) 1 2 := ⟨by decide +kernel, rfl⟩
theorem e_X11_overfull_2 : kk_d cX11_overfull 2 (.iconst 2) 1 3 := ⟨by decide +kernel, rfl⟩
theorem e_X11_overfull_3 : kk_d cX11_overfull 3 (.invokestatic 92) 3 6 := ⟨by decide +kernel, rfl⟩
theorem e_X11_overfull_6 : kk_dj cX11_overfull 6 (.ifCond .ne 5) 3 (5) 9 11 := ⟨by decide +kernel, rfl, by decide⟩
theorem e_X11_overfull_11 : kk_d cX11_overfull 11 (.aload_n 0) 1 12 := ⟨by decide +kernel, rfl⟩
theorem e_X11_overfull_12 : kk_d cX11_overfull 12 (.aload_n 0) 1 13 := ⟨by decide +kernel, rfl⟩
theorem e_X11_overfull_13 : kk_d cX11_overfull 13 (.invokevirtual 128) 3 16 := ⟨by decide +kernel, rfl⟩
theorem e_X11_overfull_16 : kk_d cX11_overfull 16 (.invokevirtual 256) 3 19 := ⟨by decide +kernel, rfl⟩
theorem e_X11_overfull_19 : kk_d cX11_overfull 19 (.istore_n 2) 1 20 := ⟨by decide +kernel, rfl⟩
theorem e_X11_overfull_20 : kk_d cX11_overfull 20 (.iload_n 2) 1 21 := ⟨by decide +kernel, rfl⟩
theorem e_X11_overfull_21 : kk_dj cX11_overfull 21 (.ifCond .ne 6) 3 (6) 24 27 := ⟨by decide +kernel, rfl, by decide⟩
theorem e_X11_overfull_27 : kk_d cX11_overfull 27 (.iload_n 1) 1 28 := ⟨by decide +kernel, rfl⟩
theorem e_X11_overfull_28 : kk_dj cX11_overfull 28 (.ifCond .ne 7) 3 (7) 31 35 := ⟨by decide +kernel, rfl, by decide⟩
theorem e_X11_overfull_59 : kk_d cX11_overfull 59 .ireturn 1 60 := ⟨by decide +kernel, rfl⟩
theorem e_X11_overfull_35 : kk_d cX11_overfull 35 (.iload_n 1) 1 36 := ⟨by decide +kernel, rfl⟩
theorem e_X11_overfull_36 : kk_d cX11_overfull 36 (.iconst 1) 1 37 := ⟨by decide +kernel, rfl⟩
theorem e_X11_overfull_37 : kk_dj cX11_overfull 37 (.if_icmp .ne 11) 3 (11) 40 48 := ⟨by decide +kernel, rfl, by decide⟩
theorem e_X11_overfull_48 : kk_d cX11_overfull 48 (.aload_n 0) 1 49 := ⟨by decide +kernel, rfl⟩
theorem e_X11_overfull_49 : kk_d cX11_overfull 49 (.invokevirtual 128) 3 52 := ⟨by decide +kernel, rfl⟩
theorem e_X11_overfull_52 : kk_d cX11_overfull 52 (.iload_n 2) 1 53 := ⟨by decide +kernel, rfl⟩
theorem e_X11_overfull_53 : kk_d cX11_overfull 53 (.invokestatic 160) 3 56 := ⟨by decide +kernel, rfl⟩
theorem e_X11_overfull_56 : kk_d cX11_overfull 56 (.iconst 2) 1 57 := ⟨by decide +kernel, rfl⟩
theorem e_X11_overfull_57 : kk_d cX11_overfull 57 .idiv 1 58 := ⟨by decide +kernel, rfl⟩
theorem e_X11_overfull_58 : kk_d cX11_overfull 58 .imul 1 59 := ⟨by decide +kernel, rfl⟩
theorem e_X11_overfull_40 : kk_d cX11_overfull 40 (.aload_n 0) 1 41 := ⟨by decide +kernel, rfl⟩
theorem e_X11_overfull_41 : kk_d cX11_overfull 41 (.iload_n 2) 1 42 := ⟨by decide +kernel, rfl⟩
theorem e_X11_overfull_42 : kk_d cX11_overfull 42 (.invokevirtual 241) 3 45 := ⟨by decide +kernel, rfl⟩
theorem e_X11_overfull_45 : kk_dj cX11_overfull 45 (.goto 14) 3 (14) 48 59 := ⟨by decide +kernel, rfl, by decide⟩
theorem e_X11_overfull_31 : kk_d cX11_overfull 31 (.iload_n 2) 1 32 := ⟨by decide +kernel, rfl⟩
theorem e_X11_overfull_32 : kk_dj cX11_overfull 32 (.goto 27) 3 (27) 35 59 := ⟨by decide +kernel, rfl, by decide⟩
theorem e_X11_overfull_24 : kk_d cX11_overfull 24 (.bipush (-2)) 2 26 := ⟨by decide +kernel, rfl⟩
theorem e_X11_overfull_26 : kk_d cX11_overfull 26 .ireturn 1 27 := ⟨by decide +kernel, rfl⟩
theorem e_X11_overfull_9 : kk_d cX11_overfull 9 (.iconst (-1)) 1 10 := ⟨by decide +kernel, rfl⟩
theorem e_X11_overfull_10 : kk_d cX11_overfull 10 .ireturn 1 11 := ⟨by decide +kernel, rfl⟩
set_option maxRecDepth 4000 in
theorem s_X11_overfull (Z : kk_Z) (v1 : Int32) (σ : kk_St) (Q : Int32 → Prop) (h : f_X11_overfull v1 σ Q) : kk_M Z sh_M yX11_overfull cX11_overfull 3 (some .int) (kk_R 6) [.ref (Z.2.1 0), .int v1] σ (kk_Qi Z sh_M (fun r σ' => σ' = σ ∧ Q r)) := by
  unfold f_X11_overfull at h
  refine kk_met (own := RX11) (by decide) rfl (Nat.le_of_ble_eq_true rfl) rfl ?_
  refine kk_iload_n 1 rfl e_X11_overfull_0 ?_
  refine kk_iconst ic_0 e_X11_overfull_1 ?_
  refine kk_iconst ic_2 e_X11_overfull_2 ?_
  refine kk_callSip (As := [.int v1, .int (0 : Int32), .int (2 : Int32)]) (rest := []) e_X11_overfull_3 ml_X11_92 rfl (kk_fitR (by decide) (by decide)) (Nat.le_of_ble_eq_true rfl) rfl (s_X11_in Z v1 (0 : Int32) (2 : Int32) σ _ h) (fun r_1 h => ?_)
  refine kk_if_ne e_X11_overfull_6 (fun c_12 => ?_) (fun c_12 => ?_)
  · replace h := h.1 c_12
    refine kk_aload_n 0 rfl e_X11_overfull_11 ?_
    refine kk_aload_n 0 rfl e_X11_overfull_12 ?_
    refine kk_callVip (As := []) (rest := [.ref (Z.2.1 0)]) e_X11_overfull_13 ml_X11_128 ⟨_, _, _, _, rfl, rfl⟩ rfl (kk_fitR (by decide) (by decide)) (Nat.le_of_ble_eq_true rfl) rfl (s_X11_degree Z σ _ h) (fun r_2 h => ?_)
    refine kk_callVip (As := [.int r_2]) (rest := []) e_X11_overfull_16 ml_X11_256 ⟨_, _, _, _, rfl, rfl⟩ rfl (kk_fitR (by decide) (by decide)) (Nat.le_of_ble_eq_true rfl) rfl (s_X11_fullSet Z r_2 σ _ h) (fun r_3 h => ?_)
    refine kk_istore_n (lv' := [(2, .int r_3), (0, .ref (Z.2.1 0)), (1, .int v1)]) e_X11_overfull_19 rfl (by decide) rfl ?_
    refine kk_iload_n 0 rfl e_X11_overfull_20 ?_
    refine kk_if_ne e_X11_overfull_21 (fun c_11 => ?_) (fun c_11 => ?_)
    · replace h := h.1 c_11
      refine kk_iload_n 2 rfl e_X11_overfull_27 ?_
      refine kk_jW1 (P := fun (t_4 : Int32) => KK Z sh_M RX11 cX11_overfull 3 (some .int) (kk_R 6) (kk_Qi Z sh_M (fun r σ' => σ' = σ ∧ Q r)) 59 [] [.int t_4] σ) h ?_ ?_
      · intro t_4 h
        exact kk_iret e_X11_overfull_59 ⟨rfl, h⟩
      · intro J_5 hJ_5 h
        refine kk_if_ne e_X11_overfull_28 (fun c_10 => ?_) (fun c_10 => ?_)
        · replace h := h.1 c_10
          refine kk_iload_n 2 rfl e_X11_overfull_35 ?_
          refine kk_iconst ic_1 e_X11_overfull_36 ?_
          refine kk_icmp_ne e_X11_overfull_37 (fun c_9 => ?_) (fun c_9 => ?_)
          · replace h := h.1 c_9
            refine kk_aload_n 1 rfl e_X11_overfull_48 ?_
            refine kk_callVip (As := []) (rest := []) e_X11_overfull_49 ml_X11_128 ⟨_, _, _, _, rfl, rfl⟩ rfl (kk_fitR (by decide) (by decide)) (Nat.le_of_ble_eq_true rfl) rfl (s_X11_degree Z σ _ h) (fun r_6 h => ?_)
            refine kk_iload_n 0 rfl e_X11_overfull_52 ?_
            refine kk_callSip (As := [.int r_3]) (rest := [.int r_6]) e_X11_overfull_53 ml_X11_160 rfl (kk_fitR (by decide) (by decide)) (Nat.le_of_ble_eq_true rfl) rfl (s_X11_bitsOf Z r_3 σ _ h) (fun r_7 h => ?_)
            refine kk_iconst ic_2 e_X11_overfull_56 ?_
            refine kk_idiv nz_2 e_X11_overfull_57 ?_
            refine kk_imul e_X11_overfull_58 ?_
            exact kk_sub [] rfl (hJ_5 (r_6 * (r_7 / (2 : Int32))) h)
          · replace h := h.2 c_9
            refine kk_aload_n 1 rfl e_X11_overfull_40 ?_
            refine kk_iload_n 0 rfl e_X11_overfull_41 ?_
            refine kk_callVip (As := [.int r_3]) (rest := []) e_X11_overfull_42 ml_X11_241 ⟨_, _, _, _, rfl, rfl⟩ rfl (kk_fitR (by decide) (by decide)) (Nat.le_of_ble_eq_true rfl) rfl (s_X11_linesWithin Z r_3 σ _ h) (fun r_8 h => ?_)
            refine kk_goto e_X11_overfull_45 ?_
            exact kk_sub [] rfl (hJ_5 r_8 h)
        · replace h := h.2 c_10
          refine kk_iload_n 0 rfl e_X11_overfull_31 ?_
          refine kk_goto e_X11_overfull_32 ?_
          exact kk_sub [] rfl (hJ_5 r_3 h)
    · replace h := h.2 c_11
      refine kk_bipush bp_m2 e_X11_overfull_24 ?_
      exact kk_iret e_X11_overfull_26 ⟨rfl, h⟩
  · replace h := h.2 c_12
    refine kk_iconst ic_m1 e_X11_overfull_9 ?_
    exact kk_iret e_X11_overfull_10 ⟨rfl, h⟩
theorem e_X11_paint_0 : kk_d cX11_paint 0 (.aload_n 0) 1 1 := ⟨by decide +kernel, rfl⟩
theorem e_X11_paint_1 : kk_d cX11_paint 1 (.iload_n 1) 1 2 := ⟨by decide +kernel, rfl⟩
theorem e_X11_paint_2 : kk_d cX11_paint 2 (.invokevirtual 143) 3 5 := ⟨by decide +kernel, rfl⟩
theorem e_X11_paint_5 : kk_dj cX11_paint 5 (.ifCond .eq 39) 3 (39) 8 44 := ⟨by decide +kernel, rfl, by decide⟩
theorem e_X11_paint_44 : kk_d cX11_paint 44 (.iconst 0) 1 45 := ⟨by decide +kernel, rfl⟩
theorem e_X11_paint_45 : kk_d cX11_paint 45 .ireturn 1 46 := ⟨by decide +kernel, rfl⟩
theorem e_X11_paint_8 : kk_d cX11_paint 8 (.aload_n 0) 1 9 := ⟨by decide +kernel, rfl⟩
theorem e_X11_paint_9 : kk_d cX11_paint 9 (.iload_n 2) 1 10 := ⟨by decide +kernel, rfl⟩
theorem e_X11_paint_10 : kk_d cX11_paint 10 (.invokevirtual 131) 3 13 := ⟨by decide +kernel, rfl⟩
theorem e_X11_paint_13 : kk_dj cX11_paint 13 (.ifCond .eq 31) 3 (31) 16 44 := ⟨by decide +kernel, rfl, by decide⟩
theorem e_X11_paint_16 : kk_d cX11_paint 16 (.aload_n 0) 1 17 := ⟨by decide +kernel, rfl⟩
theorem e_X11_paint_17 : kk_d cX11_paint 17 (.aload_n 0) 1 18 := ⟨by decide +kernel, rfl⟩
theorem e_X11_paint_18 : kk_d cX11_paint 18 (.getfield 24) 3 21 := ⟨by decide +kernel, rfl⟩
theorem e_X11_paint_21 : kk_d cX11_paint 21 (.iload_n 1) 1 22 := ⟨by decide +kernel, rfl⟩
theorem e_X11_paint_22 : kk_d cX11_paint 22 .iaload 1 23 := ⟨by decide +kernel, rfl⟩
theorem e_X11_paint_23 : kk_d cX11_paint 23 (.iload_n 2) 1 24 := ⟨by decide +kernel, rfl⟩
theorem e_X11_paint_24 : kk_d cX11_paint 24 (.invokevirtual 140) 3 27 := ⟨by decide +kernel, rfl⟩
theorem e_X11_paint_27 : kk_dj cX11_paint 27 (.ifCond .eq 17) 3 (17) 30 44 := ⟨by decide +kernel, rfl, by decide⟩
theorem e_X11_paint_30 : kk_d cX11_paint 30 (.aload_n 0) 1 31 := ⟨by decide +kernel, rfl⟩
theorem e_X11_paint_31 : kk_d cX11_paint 31 (.aload_n 0) 1 32 := ⟨by decide +kernel, rfl⟩
theorem e_X11_paint_32 : kk_d cX11_paint 32 (.getfield 28) 3 35 := ⟨by decide +kernel, rfl⟩
theorem e_X11_paint_35 : kk_d cX11_paint 35 (.iload_n 1) 1 36 := ⟨by decide +kernel, rfl⟩
theorem e_X11_paint_36 : kk_d cX11_paint 36 .iaload 1 37 := ⟨by decide +kernel, rfl⟩
theorem e_X11_paint_37 : kk_d cX11_paint 37 (.iload_n 2) 1 38 := ⟨by decide +kernel, rfl⟩
theorem e_X11_paint_38 : kk_d cX11_paint 38 (.invokevirtual 140) 3 41 := ⟨by decide +kernel, rfl⟩
theorem e_X11_paint_41 : kk_dj cX11_paint 41 (.ifCond .ne 5) 3 (5) 44 46 := ⟨by decide +kernel, rfl, by decide⟩
theorem e_X11_paint_46 : kk_d cX11_paint 46 (.aload_n 0) 1 47 := ⟨by decide +kernel, rfl⟩
theorem e_X11_paint_47 : kk_d cX11_paint 47 (.getfield 31) 3 50 := ⟨by decide +kernel, rfl⟩
theorem e_X11_paint_50 : kk_d cX11_paint 50 (.iload_n 1) 1 51 := ⟨by decide +kernel, rfl⟩
theorem e_X11_paint_51 : kk_d cX11_paint 51 (.iload_n 2) 1 52 := ⟨by decide +kernel, rfl⟩
theorem e_X11_paint_52 : kk_d cX11_paint 52 .iastore 1 53 := ⟨by decide +kernel, rfl⟩
theorem e_X11_paint_53 : kk_d cX11_paint 53 (.iconst 1) 1 54 := ⟨by decide +kernel, rfl⟩
theorem e_X11_paint_54 : kk_d cX11_paint 54 .ireturn 1 55 := ⟨by decide +kernel, rfl⟩
set_option maxRecDepth 4000 in
theorem s_X11_paint (Z : kk_Z) (v1 : Int32) (v2 : Int32) (σ : kk_St) (Q : Int32 → kk_St → Prop) (h : f_X11_paint v1 v2 σ Q) : kk_M Z sh_M yX11_paint cX11_paint 3 (some .boolean) (kk_R 7) [.ref (Z.2.1 0), .int v1, .int v2] σ (kk_Qi Z sh_M Q) := by
  unfold f_X11_paint at h
  refine kk_met (own := RX11) (by decide) rfl (Nat.le_of_ble_eq_true rfl) rfl ?_
  refine kk_aload_n 0 rfl e_X11_paint_0 ?_
  refine kk_iload_n 1 rfl e_X11_paint_1 ?_
  refine kk_callVip (As := [.int v1]) (rest := []) e_X11_paint_2 ml_X11_143 ⟨_, _, _, _, rfl, rfl⟩ rfl (kk_fitR (by decide) (by decide)) (Nat.le_of_ble_eq_true rfl) rfl (s_X11_isLine Z v1 σ _ h) (fun r_1 h => ?_)
  refine kk_jW0 (P := KK Z sh_M RX11 cX11_paint 3 (some .boolean) (kk_R 7) (kk_Qi Z sh_M Q) 44 [] [] σ) h ?_ ?_
  · intro h
    refine kk_iconst ic_0 e_X11_paint_44 ?_
    exact kk_zret e_X11_paint_45 (Or.inl rfl) h
  · intro J_2 hJ_2 h
    refine kk_if_eq e_X11_paint_5 (fun c_10 => ?_) (fun c_10 => ?_)
    · replace h := h.1 c_10
      exact kk_sub [] rfl (hJ_2 h)
    · replace h := h.2 c_10
      refine kk_aload_n 0 rfl e_X11_paint_8 ?_
      refine kk_iload_n 2 rfl e_X11_paint_9 ?_
      refine kk_callVip (As := [.int v2]) (rest := []) e_X11_paint_10 ml_X11_131 ⟨_, _, _, _, rfl, rfl⟩ rfl (kk_fitR (by decide) (by decide)) (Nat.le_of_ble_eq_true rfl) rfl (s_X11_isColour Z v2 σ _ h) (fun r_3 h => ?_)
      refine kk_if_eq e_X11_paint_13 (fun c_9 => ?_) (fun c_9 => ?_)
      · replace h := h.1 c_9
        exact kk_sub [] rfl (hJ_2 h)
      · replace h := h.2 c_9
        refine kk_aload_n 0 rfl e_X11_paint_16 ?_
        refine kk_aload_n 0 rfl e_X11_paint_17 ?_
        refine kk_getr e_X11_paint_18 fl_X11_24 rfl rfl ?_
        refine kk_iload_n 1 rfl e_X11_paint_21 ?_
        refine kk_iald e_X11_paint_22 rfl h.1 ?_
        replace h := h.2
        refine kk_iload_n 2 rfl e_X11_paint_23 ?_
        refine kk_callVip (As := [.int (kk_rd σ 1 v1), .int v2]) (rest := []) e_X11_paint_24 ml_X11_140 ⟨_, _, _, _, rfl, rfl⟩ rfl (kk_fitR (by decide) (by decide)) (Nat.le_of_ble_eq_true rfl) rfl (s_X11_isFreeAt Z (kk_rd σ 1 v1) v2 σ _ h) (fun r_4 h => ?_)
        refine kk_if_eq e_X11_paint_27 (fun c_8 => ?_) (fun c_8 => ?_)
        · replace h := h.1 c_8
          exact kk_sub [] rfl (hJ_2 h)
        · replace h := h.2 c_8
          refine kk_aload_n 0 rfl e_X11_paint_30 ?_
          refine kk_aload_n 0 rfl e_X11_paint_31 ?_
          refine kk_getr e_X11_paint_32 fl_X11_28 rfl rfl ?_
          refine kk_iload_n 1 rfl e_X11_paint_35 ?_
          refine kk_iald e_X11_paint_36 rfl h.1 ?_
          replace h := h.2
          refine kk_iload_n 2 rfl e_X11_paint_37 ?_
          refine kk_callVip (As := [.int (kk_rd σ 2 v1), .int v2]) (rest := []) e_X11_paint_38 ml_X11_140 ⟨_, _, _, _, rfl, rfl⟩ rfl (kk_fitR (by decide) (by decide)) (Nat.le_of_ble_eq_true rfl) rfl (s_X11_isFreeAt Z (kk_rd σ 2 v1) v2 σ _ h) (fun r_5 h => ?_)
          refine kk_if_ne e_X11_paint_41 (fun c_7 => ?_) (fun c_7 => ?_)
          · replace h := h.1 c_7
            refine kk_aload_n 0 rfl e_X11_paint_46 ?_
            refine kk_getr e_X11_paint_47 fl_X11_31 rfl rfl ?_
            refine kk_iload_n 1 rfl e_X11_paint_50 ?_
            refine kk_iload_n 2 rfl e_X11_paint_51 ?_
            refine kk_iast e_X11_paint_52 rfl h.1 ?_
            replace h := h.2
            refine kk_tops (fun σ_6 eσ_6 => ?_)
            replace h := h σ_6 eσ_6
            refine kk_iconst ic_1 e_X11_paint_53 ?_
            exact kk_zret e_X11_paint_54 (Or.inr rfl) h
          · replace h := h.2 c_7
            exact kk_sub [] rfl (hJ_2 h)
theorem e_X11_pair_0 : kk_d cX11_pair 0 (.aload_n 0) 1 1 := ⟨by decide +kernel, rfl⟩
theorem e_X11_pair_1 : kk_d cX11_pair 1 (.invokevirtual 191) 3 4 := ⟨by decide +kernel, rfl⟩
theorem e_X11_pair_4 : kk_dj cX11_pair 4 (.ifCond .ne 6) 3 (6) 7 10 := ⟨by decide +kernel, rfl, by decide⟩
theorem e_X11_pair_10 : kk_d cX11_pair 10 (.aload_n 0) 1 11 := ⟨by decide +kernel, rfl⟩
theorem e_X11_pair_11 : kk_d cX11_pair 11 (.invokevirtual 128) 3 14 := ⟨by decide +kernel, rfl⟩
theorem e_X11_pair_14 : kk_d cX11_pair 14 (.istore_n 1) 1 15 := ⟨by decide +kernel, rfl⟩
theorem e_X11_pair_15 : kk_d cX11_pair 15 (.iconst 0) 1 16 := ⟨by decide +kernel, rfl⟩
theorem e_X11_pair_16 : kk_d cX11_pair 16 (.istore_n 2) 1 17 := ⟨by decide +kernel, rfl⟩
theorem e_X11_pair_17 : kk_d cX11_pair 17 (.iload_n 2) 1 18 := ⟨by decide +kernel, rfl⟩
theorem e_X11_pair_18 : kk_d cX11_pair 18 (.aload_n 0) 1 19 := ⟨by decide +kernel, rfl⟩
theorem e_X11_pair_19 : kk_d cX11_pair 19 (.getfield 96) 3 22 := ⟨by decide +kernel, rfl⟩
theorem e_X11_pair_22 : kk_dj cX11_pair 22 (.if_icmp .ge 16) 3 (16) 25 38 := ⟨by decide +kernel, rfl, by decide⟩
theorem e_X11_pair_38 : kk_d cX11_pair 38 (.iconst 0) 1 39 := ⟨by decide +kernel, rfl⟩
theorem e_X11_pair_39 : kk_d cX11_pair 39 (.istore_n 2) 1 40 := ⟨by decide +kernel, rfl⟩
theorem e_X11_pair_40 : kk_d cX11_pair 40 (.iload_n 2) 1 41 := ⟨by decide +kernel, rfl⟩
theorem e_X11_pair_41 : kk_d cX11_pair 41 (.aload_n 0) 1 42 := ⟨by decide +kernel, rfl⟩
theorem e_X11_pair_42 : kk_d cX11_pair 42 (.getfield 96) 3 45 := ⟨by decide +kernel, rfl⟩
theorem e_X11_pair_45 : kk_dj cX11_pair 45 (.if_icmp .ge 116) 3 (116) 48 161 := ⟨by decide +kernel, rfl, by decide⟩
theorem e_X11_pair_161 : kk_d cX11_pair 161 (.aload_n 0) 1 162 := ⟨by decide +kernel, rfl⟩
theorem e_X11_pair_162 : kk_d cX11_pair 162 (.getfield 96) 3 165 := ⟨by decide +kernel, rfl⟩
theorem e_X11_pair_165 : kk_d cX11_pair 165 .ireturn 1 166 := ⟨by decide +kernel, rfl⟩
theorem e_X11_pair_48 : kk_d cX11_pair 48 (.aload_n 0) 1 49 := ⟨by decide +kernel, rfl⟩
theorem e_X11_pair_49 : kk_d cX11_pair 49 (.aload_n 0) 1 50 := ⟨by decide +kernel, rfl⟩
theorem e_X11_pair_50 : kk_d cX11_pair 50 (.getfield 24) 3 53 := ⟨by decide +kernel, rfl⟩
theorem e_X11_pair_53 : kk_d cX11_pair 53 (.iload_n 2) 1 54 := ⟨by decide +kernel, rfl⟩
theorem e_X11_pair_54 : kk_d cX11_pair 54 .iaload 1 55 := ⟨by decide +kernel, rfl⟩
theorem e_X11_pair_55 : kk_d cX11_pair 55 (.invokevirtual 195) 3 58 := ⟨by decide +kernel, rfl⟩
theorem e_X11_pair_58 : kk_d cX11_pair 58 (.aload_n 0) 1 59 := ⟨by decide +kernel, rfl⟩
theorem e_X11_pair_59 : kk_d cX11_pair 59 (.aload_n 0) 1 60 := ⟨by decide +kernel, rfl⟩
theorem e_X11_pair_60 : kk_d cX11_pair 60 (.getfield 28) 3 63 := ⟨by decide +kernel, rfl⟩
theorem e_X11_pair_63 : kk_d cX11_pair 63 (.iload_n 2) 1 64 := ⟨by decide +kernel, rfl⟩
theorem e_X11_pair_64 : kk_d cX11_pair 64 .iaload 1 65 := ⟨by decide +kernel, rfl⟩
theorem e_X11_pair_65 : kk_d cX11_pair 65 (.invokevirtual 195) 3 68 := ⟨by decide +kernel, rfl⟩
theorem e_X11_pair_68 : kk_d cX11_pair 68 .ior 1 69 := ⟨by decide +kernel, rfl⟩
theorem e_X11_pair_69 : kk_d cX11_pair 69 (.istore_n 3) 1 70 := ⟨by decide +kernel, rfl⟩
theorem e_X11_pair_70 : kk_d cX11_pair 70 (.iconst 0) 1 71 := ⟨by decide +kernel, rfl⟩
theorem e_X11_pair_71 : kk_d cX11_pair 71 (.istore 4) 2 73 := ⟨by decide +kernel, rfl⟩
theorem e_X11_pair_73 : kk_d cX11_pair 73 (.iload_n 3) 1 74 := ⟨by decide +kernel, rfl⟩
theorem e_X11_pair_74 : kk_d cX11_pair 74 (.iload 4) 2 76 := ⟨by decide +kernel, rfl⟩
theorem e_X11_pair_76 : kk_d cX11_pair 76 (.invokestatic 11) 3 79 := ⟨by decide +kernel, rfl⟩
theorem e_X11_pair_79 : kk_dj cX11_pair 79 (.ifCond .eq 9) 3 (9) 82 88 := ⟨by decide +kernel, rfl, by decide⟩
theorem e_X11_pair_88 : kk_d cX11_pair 88 (.iload 4) 2 90 := ⟨by decide +kernel, rfl⟩
theorem e_X11_pair_90 : kk_d cX11_pair 90 (.iload_n 1) 1 91 := ⟨by decide +kernel, rfl⟩
theorem e_X11_pair_91 : kk_dj cX11_pair 91 (.if_icmp .lt 56) 3 (56) 94 147 := ⟨by decide +kernel, rfl, by decide⟩
theorem e_X11_pair_147 : kk_d cX11_pair 147 (.aload_n 0) 1 148 := ⟨by decide +kernel, rfl⟩
theorem e_X11_pair_148 : kk_d cX11_pair 148 (.getfield 31) 3 151 := ⟨by decide +kernel, rfl⟩
theorem e_X11_pair_151 : kk_d cX11_pair 151 (.iload_n 2) 1 152 := ⟨by decide +kernel, rfl⟩
theorem e_X11_pair_152 : kk_d cX11_pair 152 (.iload 4) 2 154 := ⟨by decide +kernel, rfl⟩
theorem e_X11_pair_154 : kk_d cX11_pair 154 .iastore 1 155 := ⟨by decide +kernel, rfl⟩
theorem e_X11_pair_155 : kk_d cX11_pair 155 (.iinc 2 1) 3 158 := ⟨by decide +kernel, rfl⟩
theorem e_X11_pair_158 : kk_dj cX11_pair 158 (.goto (-118)) 3 (-118) 161 40 := ⟨by decide +kernel, rfl, by decide⟩
theorem e_X11_pair_94 : kk_d cX11_pair 94 (.aload_n 0) 1 95 := ⟨by decide +kernel, rfl⟩
theorem e_X11_pair_95 : kk_d cX11_pair 95 (.aload_n 0) 1 96 := ⟨by decide +kernel, rfl⟩
theorem e_X11_pair_96 : kk_d cX11_pair 96 (.getfield 24) 3 99 := ⟨by decide +kernel, rfl⟩
theorem e_X11_pair_99 : kk_d cX11_pair 99 (.iload_n 2) 1 100 := ⟨by decide +kernel, rfl⟩
theorem e_X11_pair_100 : kk_d cX11_pair 100 .iaload 1 101 := ⟨by decide +kernel, rfl⟩
theorem e_X11_pair_101 : kk_d cX11_pair 101 (.invokevirtual 182) 3 104 := ⟨by decide +kernel, rfl⟩
theorem e_X11_pair_104 : kk_d cX11_pair 104 (.istore 4) 2 106 := ⟨by decide +kernel, rfl⟩
theorem e_X11_pair_106 : kk_d cX11_pair 106 (.aload_n 0) 1 107 := ⟨by decide +kernel, rfl⟩
theorem e_X11_pair_107 : kk_d cX11_pair 107 (.aload_n 0) 1 108 := ⟨by decide +kernel, rfl⟩
theorem e_X11_pair_108 : kk_d cX11_pair 108 (.getfield 28) 3 111 := ⟨by decide +kernel, rfl⟩
theorem e_X11_pair_111 : kk_d cX11_pair 111 (.iload_n 2) 1 112 := ⟨by decide +kernel, rfl⟩
theorem e_X11_pair_112 : kk_d cX11_pair 112 .iaload 1 113 := ⟨by decide +kernel, rfl⟩
theorem e_X11_pair_113 : kk_d cX11_pair 113 (.invokevirtual 182) 3 116 := ⟨by decide +kernel, rfl⟩
theorem e_X11_pair_116 : kk_d cX11_pair 116 (.istore 5) 2 118 := ⟨by decide +kernel, rfl⟩
theorem e_X11_pair_118 : kk_d cX11_pair 118 (.aload_n 0) 1 119 := ⟨by decide +kernel, rfl⟩
theorem e_X11_pair_119 : kk_d cX11_pair 119 (.getfield 31) 3 122 := ⟨by decide +kernel, rfl⟩
theorem e_X11_pair_122 : kk_d cX11_pair 122 (.aload_n 0) 1 123 := ⟨by decide +kernel, rfl⟩
theorem e_X11_pair_123 : kk_d cX11_pair 123 (.aload_n 0) 1 124 := ⟨by decide +kernel, rfl⟩
theorem e_X11_pair_124 : kk_d cX11_pair 124 (.getfield 31) 3 127 := ⟨by decide +kernel, rfl⟩
theorem e_X11_pair_127 : kk_d cX11_pair 127 (.aload_n 0) 1 128 := ⟨by decide +kernel, rfl⟩
theorem e_X11_pair_128 : kk_d cX11_pair 128 (.getfield 28) 3 131 := ⟨by decide +kernel, rfl⟩
theorem e_X11_pair_131 : kk_d cX11_pair 131 (.iload_n 2) 1 132 := ⟨by decide +kernel, rfl⟩
theorem e_X11_pair_132 : kk_d cX11_pair 132 .iaload 1 133 := ⟨by decide +kernel, rfl⟩
theorem e_X11_pair_133 : kk_d cX11_pair 133 (.iload 4) 2 135 := ⟨by decide +kernel, rfl⟩
theorem e_X11_pair_135 : kk_d cX11_pair 135 (.iload 5) 2 137 := ⟨by decide +kernel, rfl⟩
theorem e_X11_pair_137 : kk_d cX11_pair 137 (.invokevirtual 152) 3 140 := ⟨by decide +kernel, rfl⟩
theorem e_X11_pair_140 : kk_d cX11_pair 140 (.iload 4) 2 142 := ⟨by decide +kernel, rfl⟩
theorem e_X11_pair_142 : kk_d cX11_pair 142 (.iload 5) 2 144 := ⟨by decide +kernel, rfl⟩
theorem e_X11_pair_144 : kk_d cX11_pair 144 (.invokestatic 156) 3 147 := ⟨by decide +kernel, rfl⟩
theorem e_X11_pair_82 : kk_d cX11_pair 82 (.iinc 4 1) 3 85 := ⟨by decide +kernel, rfl⟩
theorem e_X11_pair_85 : kk_dj cX11_pair 85 (.goto (-12)) 3 (-12) 88 73 := ⟨by decide +kernel, rfl, by decide⟩
theorem e_X11_pair_25 : kk_d cX11_pair 25 (.aload_n 0) 1 26 := ⟨by decide +kernel, rfl⟩
theorem e_X11_pair_26 : kk_d cX11_pair 26 (.getfield 31) 3 29 := ⟨by decide +kernel, rfl⟩
theorem e_X11_pair_29 : kk_d cX11_pair 29 (.iload_n 2) 1 30 := ⟨by decide +kernel, rfl⟩
theorem e_X11_pair_30 : kk_d cX11_pair 30 (.iconst (-1)) 1 31 := ⟨by decide +kernel, rfl⟩
theorem e_X11_pair_31 : kk_d cX11_pair 31 .iastore 1 32 := ⟨by decide +kernel, rfl⟩
theorem e_X11_pair_32 : kk_d cX11_pair 32 (.iinc 2 1) 3 35 := ⟨by decide +kernel, rfl⟩
theorem e_X11_pair_35 : kk_dj cX11_pair 35 (.goto (-18)) 3 (-18) 38 17 := ⟨by decide +kernel, rfl, by decide⟩
theorem e_X11_pair_7 : kk_d cX11_pair 7 (.bipush (-2)) 2 9 := ⟨by decide +kernel, rfl⟩
theorem e_X11_pair_9 : kk_d cX11_pair 9 .ireturn 1 10 := ⟨by decide +kernel, rfl⟩
set_option maxRecDepth 4000 in
theorem s_X11_pair (Z : kk_Z) (σ : kk_St) (Q : Int32 → kk_St → Prop) (h : f_X11_pair σ Q) : kk_M Z sh_M yX11_pair cX11_pair 6 (some .int) (kk_R 6) [.ref (Z.2.1 0)] σ (kk_Qi Z sh_M Q) := by
  unfold f_X11_pair at h
  refine kk_met (own := RX11) (by decide) rfl (Nat.le_of_ble_eq_true rfl) rfl ?_
  refine kk_aload_n 0 rfl e_X11_pair_0 ?_
  refine kk_callVi (As := []) (rest := []) e_X11_pair_1 ml_X11_191 ⟨_, _, _, _, rfl, rfl⟩ rfl (kk_fitR (by decide) (by decide)) (Nat.le_of_ble_eq_true rfl) rfl (s_X11_laysSides Z σ _ h) (fun r_1 σ_2 h => ?_)
  refine kk_if_ne e_X11_pair_4 (fun c_29 => ?_) (fun c_29 => ?_)
  · replace h := h.1 c_29
    refine kk_aload_n 0 rfl e_X11_pair_10 ?_
    refine kk_callVip (As := []) (rest := []) e_X11_pair_11 ml_X11_128 ⟨_, _, _, _, rfl, rfl⟩ rfl (kk_fitR (by decide) (by decide)) (Nat.le_of_ble_eq_true rfl) rfl (s_X11_degree Z σ_2 _ h) (fun r_3 h => ?_)
    refine kk_istore_n (lv' := [(1, .int r_3), (0, .ref (Z.2.1 0))]) e_X11_pair_14 rfl (by decide) rfl ?_
    refine kk_iconst ic_0 e_X11_pair_15 ?_
    refine kk_istore_n (lv' := [(2, .int (0 : Int32)), (1, .int r_3), (0, .ref (Z.2.1 0))]) e_X11_pair_16 rfl (by decide) rfl ?_
    refine kk_sub [2, 1, 0] rfl ?_
    refine kk_lpW2 (P := fun (v2_4 : Int32) (σ_5 : kk_St) => KK Z sh_M RX11 cX11_pair 6 (some .int) (kk_R 6) (kk_Qi Z sh_M Q) 17 [(0, .ref (Z.2.1 0)), (1, .int r_3), (2, .int v2_4)] [] σ_5) ?_ h
    intro rec_6 hrec_6 v2_4 σ_5 h
    refine kk_iload_n 2 rfl e_X11_pair_17 ?_
    refine kk_aload_n 0 rfl e_X11_pair_18 ?_
    refine kk_geti e_X11_pair_19 fl_X11_96 rfl rfl ?_
    refine kk_icmp_ge e_X11_pair_22 (fun c_28 => ?_) (fun c_28 => ?_)
    · replace h := h.1 c_28
      refine kk_iconst ic_0 e_X11_pair_38 ?_
      refine kk_istore_n (lv' := [(2, .int (0 : Int32)), (0, .ref (Z.2.1 0)), (1, .int r_3)]) e_X11_pair_39 rfl (by decide) rfl ?_
      refine kk_sub [1, 2, 0] rfl ?_
      refine kk_lpW2 (P := fun (v2_7 : Int32) (σ_8 : kk_St) => KK Z sh_M RX11 cX11_pair 6 (some .int) (kk_R 6) (kk_Qi Z sh_M Q) 40 [(0, .ref (Z.2.1 0)), (1, .int r_3), (2, .int v2_7)] [] σ_8) ?_ h
      intro rec_9 hrec_9 v2_7 σ_8 h
      refine kk_iload_n 2 rfl e_X11_pair_40 ?_
      refine kk_aload_n 0 rfl e_X11_pair_41 ?_
      refine kk_geti e_X11_pair_42 fl_X11_96 rfl rfl ?_
      refine kk_icmp_ge e_X11_pair_45 (fun c_26 => ?_) (fun c_26 => ?_)
      · replace h := h.1 c_26
        refine kk_aload_n 0 rfl e_X11_pair_161 ?_
        refine kk_geti e_X11_pair_162 fl_X11_96 rfl rfl ?_
        exact kk_iret e_X11_pair_165 h
      · replace h := h.2 c_26
        refine kk_aload_n 0 rfl e_X11_pair_48 ?_
        refine kk_aload_n 0 rfl e_X11_pair_49 ?_
        refine kk_getr e_X11_pair_50 fl_X11_24 rfl rfl ?_
        refine kk_iload_n 2 rfl e_X11_pair_53 ?_
        refine kk_iald e_X11_pair_54 rfl h.1 ?_
        replace h := h.2
        refine kk_callVip (As := [.int (kk_rd σ_8 1 v2_7)]) (rest := []) e_X11_pair_55 ml_X11_195 ⟨_, _, _, _, rfl, rfl⟩ rfl (kk_fitR (by decide) (by decide)) (Nat.le_of_ble_eq_true rfl) rfl (s_X11_usedAt Z (kk_rd σ_8 1 v2_7) σ_8 _ h) (fun r_10 h => ?_)
        refine kk_aload_n 0 rfl e_X11_pair_58 ?_
        refine kk_aload_n 0 rfl e_X11_pair_59 ?_
        refine kk_getr e_X11_pair_60 fl_X11_28 rfl rfl ?_
        refine kk_iload_n 2 rfl e_X11_pair_63 ?_
        refine kk_iald e_X11_pair_64 rfl h.1 ?_
        replace h := h.2
        refine kk_callVip (As := [.int (kk_rd σ_8 2 v2_7)]) (rest := [.int r_10]) e_X11_pair_65 ml_X11_195 ⟨_, _, _, _, rfl, rfl⟩ rfl (kk_fitR (by decide) (by decide)) (Nat.le_of_ble_eq_true rfl) rfl (s_X11_usedAt Z (kk_rd σ_8 2 v2_7) σ_8 _ h) (fun r_11 h => ?_)
        refine kk_ior e_X11_pair_68 ?_
        refine kk_istore_n (lv' := [(3, .int (r_10 ||| r_11)), (0, .ref (Z.2.1 0)), (1, .int r_3), (2, .int v2_7)]) e_X11_pair_69 rfl (by decide) rfl ?_
        refine kk_iconst ic_0 e_X11_pair_70 ?_
        refine kk_istore (lv' := [(4, .int (0 : Int32)), (3, .int (r_10 ||| r_11)), (0, .ref (Z.2.1 0)), (1, .int r_3), (2, .int v2_7)]) e_X11_pair_71 (by decide) rfl ?_
        refine kk_sub [2, 3, 4, 1, 0] rfl ?_
        refine kk_lpW1 (P := fun (v4_12 : Int32) => KK Z sh_M RX11 cX11_pair 6 (some .int) (kk_R 6) (kk_Qi Z sh_M Q) 73 [(0, .ref (Z.2.1 0)), (1, .int r_3), (2, .int v2_7), (3, .int (r_10 ||| r_11)), (4, .int v4_12)] [] σ_8) ?_ h
        intro rec_13 hrec_13 v4_12 h
        refine kk_iload_n 3 rfl e_X11_pair_73 ?_
        refine kk_iload 4 rfl e_X11_pair_74 ?_
        refine kk_callSip (As := [.int (r_10 ||| r_11), .int v4_12]) (rest := []) e_X11_pair_76 ml_X11_11 rfl (kk_fitR (by decide) (by decide)) (Nat.le_of_ble_eq_true rfl) rfl (s_X11_has Z (r_10 ||| r_11) v4_12 σ_8 _ h) (fun r_14 h => ?_)
        refine kk_if_eq e_X11_pair_79 (fun c_25 => ?_) (fun c_25 => ?_)
        · replace h := h.1 c_25
          refine kk_iload 4 rfl e_X11_pair_88 ?_
          refine kk_iload_n 1 rfl e_X11_pair_90 ?_
          refine kk_jW2 (P := fun (v4_15 : Int32) (σ_16 : kk_St) => KK Z sh_M RX11 cX11_pair 6 (some .int) (kk_R 6) (kk_Qi Z sh_M Q) 147 [(0, .ref (Z.2.1 0)), (1, .int r_3), (2, .int v2_7), (4, .int v4_15)] [] σ_16) h ?_ ?_
          · intro v4_15 σ_16 h
            refine kk_aload_n 0 rfl e_X11_pair_147 ?_
            refine kk_getr e_X11_pair_148 fl_X11_31 rfl rfl ?_
            refine kk_iload_n 2 rfl e_X11_pair_151 ?_
            refine kk_iload 3 rfl e_X11_pair_152 ?_
            refine kk_iast e_X11_pair_154 rfl h.1 ?_
            replace h := h.2
            refine kk_tops (fun σ_18 eσ_18 => ?_)
            replace h := h σ_18 eσ_18
            refine kk_iinc (lv' := [(2, .int (v2_7 + (1 : Int32))), (0, .ref (Z.2.1 0)), (1, .int r_3), (4, .int v4_15)]) e_X11_pair_155 (j := 2) rfl (ii_1 v2_7) (by decide) rfl ?_
            refine kk_goto e_X11_pair_158 ?_
            exact kk_sub [1, 2, 0] rfl (hrec_9 (v2_7 + (1 : Int32)) σ_18 h)
          · intro J_17 hJ_17 h
            refine kk_icmp_lt e_X11_pair_91 (fun c_24 => ?_) (fun c_24 => ?_)
            · replace h := h.1 c_24
              exact kk_sub [0, 1, 2, 4] rfl (hJ_17 v4_12 σ_8 h)
            · replace h := h.2 c_24
              refine kk_aload_n 0 rfl e_X11_pair_94 ?_
              refine kk_aload_n 0 rfl e_X11_pair_95 ?_
              refine kk_getr e_X11_pair_96 fl_X11_24 rfl rfl ?_
              refine kk_iload_n 2 rfl e_X11_pair_99 ?_
              refine kk_iald e_X11_pair_100 rfl h.1 ?_
              replace h := h.2
              refine kk_callVip (As := [.int (kk_rd σ_8 1 v2_7)]) (rest := []) e_X11_pair_101 ml_X11_182 ⟨_, _, _, _, rfl, rfl⟩ rfl (kk_fitR (by decide) (by decide)) (Nat.le_of_ble_eq_true rfl) rfl (s_X11_leastFreeAt Z (kk_rd σ_8 1 v2_7) σ_8 _ h) (fun r_19 h => ?_)
              refine kk_istore (lv' := [(4, .int r_19), (0, .ref (Z.2.1 0)), (1, .int r_3), (2, .int v2_7), (3, .int (r_10 ||| r_11))]) e_X11_pair_104 (by decide) rfl ?_
              refine kk_aload_n 1 rfl e_X11_pair_106 ?_
              refine kk_aload_n 1 rfl e_X11_pair_107 ?_
              refine kk_getr e_X11_pair_108 fl_X11_28 rfl rfl ?_
              refine kk_iload_n 3 rfl e_X11_pair_111 ?_
              refine kk_iald e_X11_pair_112 rfl h.1 ?_
              replace h := h.2
              refine kk_callVip (As := [.int (kk_rd σ_8 2 v2_7)]) (rest := []) e_X11_pair_113 ml_X11_182 ⟨_, _, _, _, rfl, rfl⟩ rfl (kk_fitR (by decide) (by decide)) (Nat.le_of_ble_eq_true rfl) rfl (s_X11_leastFreeAt Z (kk_rd σ_8 2 v2_7) σ_8 _ h) (fun r_20 h => ?_)
              refine kk_istore (lv' := [(5, .int r_20), (4, .int r_19), (0, .ref (Z.2.1 0)), (1, .int r_3), (2, .int v2_7), (3, .int (r_10 ||| r_11))]) e_X11_pair_116 (by decide) rfl ?_
              refine kk_aload_n 2 rfl e_X11_pair_118 ?_
              refine kk_getr e_X11_pair_119 fl_X11_31 rfl rfl ?_
              refine kk_aload_n 2 rfl e_X11_pair_122 ?_
              refine kk_aload_n 2 rfl e_X11_pair_123 ?_
              refine kk_getr e_X11_pair_124 fl_X11_31 rfl rfl ?_
              refine kk_aload_n 2 rfl e_X11_pair_127 ?_
              refine kk_getr e_X11_pair_128 fl_X11_28 rfl rfl ?_
              refine kk_iload_n 4 rfl e_X11_pair_131 ?_
              refine kk_iald e_X11_pair_132 rfl h.1 ?_
              replace h := h.2
              refine kk_iload 1 rfl e_X11_pair_133 ?_
              refine kk_iload 0 rfl e_X11_pair_135 ?_
              refine kk_callVi (As := [.ref (Z.2.1 3), .int (kk_rd σ_8 2 v2_7), .int r_19, .int r_20]) (rest := [.ref (Z.2.1 3)]) e_X11_pair_137 ml_X11_152 ⟨_, _, _, _, rfl, rfl⟩ rfl (kk_fitR (by decide) (by decide)) (Nat.le_of_ble_eq_true rfl) rfl (s_X11_chainIn Z 3 20 (kk_rd σ_8 2 v2_7) r_19 r_20 σ_8 _ rfl h) (fun r_21 σ_22 h => ?_)
              refine kk_iload 1 rfl e_X11_pair_140 ?_
              refine kk_iload 0 rfl e_X11_pair_142 ?_
              refine kk_callSv (As := [.ref (Z.2.1 3), .int r_21, .int r_19, .int r_20]) (rest := []) e_X11_pair_144 ml_X11_156 rfl (kk_fitR (by decide) (by decide)) (Nat.le_of_ble_eq_true rfl) rfl (s_X11_flips Z 3 20 r_21 r_19 r_20 σ_22 _ rfl h) (fun σ_23 h => ?_)
              exact kk_sub [2, 3, 4, 1] rfl (hJ_17 r_19 σ_23 h)
        · replace h := h.2 c_25
          refine kk_iinc (lv' := [(4, .int (v4_12 + (1 : Int32))), (0, .ref (Z.2.1 0)), (1, .int r_3), (2, .int v2_7), (3, .int (r_10 ||| r_11))]) e_X11_pair_82 (j := 4) rfl (ii_1 v4_12) (by decide) rfl ?_
          refine kk_goto e_X11_pair_85 ?_
          exact kk_sub [1, 2, 3, 4, 0] rfl (hrec_13 (v4_12 + (1 : Int32)) h)
    · replace h := h.2 c_28
      refine kk_aload_n 0 rfl e_X11_pair_25 ?_
      refine kk_getr e_X11_pair_26 fl_X11_31 rfl rfl ?_
      refine kk_iload_n 2 rfl e_X11_pair_29 ?_
      refine kk_iconst ic_m1 e_X11_pair_30 ?_
      refine kk_iast e_X11_pair_31 rfl h.1 ?_
      replace h := h.2
      refine kk_tops (fun σ_27 eσ_27 => ?_)
      replace h := h σ_27 eσ_27
      refine kk_iinc (lv' := [(2, .int (v2_4 + (1 : Int32))), (0, .ref (Z.2.1 0)), (1, .int r_3)]) e_X11_pair_32 (j := 2) rfl (ii_1 v2_4) (by decide) rfl ?_
      refine kk_goto e_X11_pair_35 ?_
      exact kk_sub [1, 2, 0] rfl (hrec_6 (v2_4 + (1 : Int32)) σ_27 h)
  · replace h := h.2 c_29
    refine kk_bipush bp_m2 e_X11_pair_7 ?_
    exact kk_iret e_X11_pair_9 h
theorem e_X11_post_0 : kk_d cX11_post 0 (.aload_n 0) 1 1 := ⟨by decide +kernel, rfl⟩
theorem e_X11_post_1 : kk_d cX11_post 1 (.iload_n 1) 1 2 := ⟨by decide +kernel, rfl⟩
theorem e_X11_post_2 : kk_d cX11_post 2 (.invokevirtual 106) 3 5 := ⟨by decide +kernel, rfl⟩
theorem e_X11_post_5 : kk_dj cX11_post 5 (.ifCond .ne 5) 3 (5) 8 10 := ⟨by decide +kernel, rfl, by decide⟩
theorem e_X11_post_10 : kk_d cX11_post 10 (.iload_n 2) 1 11 := ⟨by decide +kernel, rfl⟩
theorem e_X11_post_11 : decode cX11_post 11 = .ok (.tableswitch 117 0 3 #[29, 39, 45, 51], 29) := by decide +kernel
theorem e_X11_post_40 : kk_d cX11_post 40 (.aload_n 0) 1 41 := ⟨by decide +kernel, rfl⟩
theorem e_X11_post_41 : kk_d cX11_post 41 (.iload_n 1) 1 42 := ⟨by decide +kernel, rfl⟩
theorem e_X11_post_42 : kk_d cX11_post 42 (.aload_n 0) 1 43 := ⟨by decide +kernel, rfl⟩
theorem e_X11_post_43 : kk_d cX11_post 43 (.invokevirtual 120) 3 46 := ⟨by decide +kernel, rfl⟩
theorem e_X11_post_46 : kk_d cX11_post 46 (.invokevirtual 117) 3 49 := ⟨by decide +kernel, rfl⟩
theorem e_X11_post_49 : kk_d cX11_post 49 .ireturn 1 50 := ⟨by decide +kernel, rfl⟩
theorem e_X11_post_50 : kk_d cX11_post 50 (.aload_n 0) 1 51 := ⟨by decide +kernel, rfl⟩
theorem e_X11_post_51 : kk_d cX11_post 51 (.iload_n 1) 1 52 := ⟨by decide +kernel, rfl⟩
theorem e_X11_post_52 : kk_d cX11_post 52 (.invokevirtual 195) 3 55 := ⟨by decide +kernel, rfl⟩
theorem e_X11_post_55 : kk_d cX11_post 55 .ireturn 1 56 := ⟨by decide +kernel, rfl⟩
theorem e_X11_post_56 : kk_d cX11_post 56 (.aload_n 0) 1 57 := ⟨by decide +kernel, rfl⟩
theorem e_X11_post_57 : kk_d cX11_post 57 (.iload_n 1) 1 58 := ⟨by decide +kernel, rfl⟩
theorem e_X11_post_58 : kk_d cX11_post 58 (.invokevirtual 182) 3 61 := ⟨by decide +kernel, rfl⟩
theorem e_X11_post_61 : kk_d cX11_post 61 .ireturn 1 62 := ⟨by decide +kernel, rfl⟩
theorem e_X11_post_62 : kk_d cX11_post 62 (.iconst (-1)) 1 63 := ⟨by decide +kernel, rfl⟩
theorem e_X11_post_63 : kk_d cX11_post 63 (.istore_n 3) 1 64 := ⟨by decide +kernel, rfl⟩
theorem e_X11_post_64 : kk_d cX11_post 64 (.iconst 0) 1 65 := ⟨by decide +kernel, rfl⟩
theorem e_X11_post_65 : kk_d cX11_post 65 (.istore 4) 2 67 := ⟨by decide +kernel, rfl⟩
theorem e_X11_post_67 : kk_d cX11_post 67 (.iload 4) 2 69 := ⟨by decide +kernel, rfl⟩
theorem e_X11_post_69 : kk_d cX11_post 69 (.aload_n 0) 1 70 := ⟨by decide +kernel, rfl⟩
theorem e_X11_post_70 : kk_d cX11_post 70 (.getfield 96) 3 73 := ⟨by decide +kernel, rfl⟩
theorem e_X11_post_73 : kk_dj cX11_post 73 (.if_icmp .ge 53) 3 (53) 76 126 := ⟨by decide +kernel, rfl, by decide⟩
theorem e_X11_post_126 : kk_d cX11_post 126 (.iload_n 3) 1 127 := ⟨by decide +kernel, rfl⟩
theorem e_X11_post_127 : kk_d cX11_post 127 .ireturn 1 128 := ⟨by decide +kernel, rfl⟩
theorem e_X11_post_76 : kk_d cX11_post 76 (.aload_n 0) 1 77 := ⟨by decide +kernel, rfl⟩
theorem e_X11_post_77 : kk_d cX11_post 77 (.iload 4) 2 79 := ⟨by decide +kernel, rfl⟩
theorem e_X11_post_79 : kk_d cX11_post 79 (.iload_n 1) 1 80 := ⟨by decide +kernel, rfl⟩
theorem e_X11_post_80 : kk_d cX11_post 80 (.invokevirtual 114) 3 83 := ⟨by decide +kernel, rfl⟩
theorem e_X11_post_83 : kk_dj cX11_post 83 (.ifCond .eq 37) 3 (37) 86 120 := ⟨by decide +kernel, rfl, by decide⟩
theorem e_X11_post_120 : kk_d cX11_post 120 (.iinc 4 1) 3 123 := ⟨by decide +kernel, rfl⟩
theorem e_X11_post_123 : kk_dj cX11_post 123 (.goto (-56)) 3 (-56) 126 67 := ⟨by decide +kernel, rfl, by decide⟩
theorem e_X11_post_86 : kk_d cX11_post 86 (.aload_n 0) 1 87 := ⟨by decide +kernel, rfl⟩
theorem e_X11_post_87 : kk_d cX11_post 87 (.getfield 31) 3 90 := ⟨by decide +kernel, rfl⟩
theorem e_X11_post_90 : kk_d cX11_post 90 (.iload 4) 2 92 := ⟨by decide +kernel, rfl⟩
theorem e_X11_post_92 : kk_d cX11_post 92 .iaload 1 93 := ⟨by decide +kernel, rfl⟩
theorem e_X11_post_93 : kk_dj cX11_post 93 (.ifCond .lt 27) 3 (27) 96 120 := ⟨by decide +kernel, rfl, by decide⟩
theorem e_X11_post_96 : kk_d cX11_post 96 (.iload_n 3) 1 97 := ⟨by decide +kernel, rfl⟩
theorem e_X11_post_97 : kk_d cX11_post 97 (.iconst (-1)) 1 98 := ⟨by decide +kernel, rfl⟩
theorem e_X11_post_98 : kk_dj cX11_post 98 (.if_icmp .eq 19) 3 (19) 101 117 := ⟨by decide +kernel, rfl, by decide⟩
theorem e_X11_post_117 : kk_d cX11_post 117 (.iload 4) 2 119 := ⟨by decide +kernel, rfl⟩
theorem e_X11_post_119 : kk_d cX11_post 119 (.istore_n 3) 1 120 := ⟨by decide +kernel, rfl⟩
theorem e_X11_post_101 : kk_d cX11_post 101 (.aload_n 0) 1 102 := ⟨by decide +kernel, rfl⟩
theorem e_X11_post_102 : kk_d cX11_post 102 (.getfield 31) 3 105 := ⟨by decide +kernel, rfl⟩
theorem e_X11_post_105 : kk_d cX11_post 105 (.iload 4) 2 107 := ⟨by decide +kernel, rfl⟩
theorem e_X11_post_107 : kk_d cX11_post 107 .iaload 1 108 := ⟨by decide +kernel, rfl⟩
theorem e_X11_post_108 : kk_d cX11_post 108 (.aload_n 0) 1 109 := ⟨by decide +kernel, rfl⟩
theorem e_X11_post_109 : kk_d cX11_post 109 (.getfield 31) 3 112 := ⟨by decide +kernel, rfl⟩
theorem e_X11_post_112 : kk_d cX11_post 112 (.iload_n 3) 1 113 := ⟨by decide +kernel, rfl⟩
theorem e_X11_post_113 : kk_d cX11_post 113 .iaload 1 114 := ⟨by decide +kernel, rfl⟩
theorem e_X11_post_114 : kk_dj cX11_post 114 (.if_icmp .le 6) 3 (6) 117 120 := ⟨by decide +kernel, rfl, by decide⟩
theorem e_X11_post_128 : kk_d cX11_post 128 (.iconst (-1)) 1 129 := ⟨by decide +kernel, rfl⟩
theorem e_X11_post_129 : kk_d cX11_post 129 .ireturn 1 130 := ⟨by decide +kernel, rfl⟩
theorem e_X11_post_8 : kk_d cX11_post 8 (.iconst (-1)) 1 9 := ⟨by decide +kernel, rfl⟩
theorem e_X11_post_9 : kk_d cX11_post 9 .ireturn 1 10 := ⟨by decide +kernel, rfl⟩
set_option maxRecDepth 4000 in
theorem s_X11_post (Z : kk_Z) (v1 : Int32) (v2 : Int32) (σ : kk_St) (Q : Int32 → Prop) (h : f_X11_post v1 v2 σ Q) : kk_M Z sh_M yX11_post cX11_post 5 (some .int) (kk_R 6) [.ref (Z.2.1 0), .int v1, .int v2] σ (kk_Qi Z sh_M (fun r σ' => σ' = σ ∧ Q r)) := by
  unfold f_X11_post at h
  refine kk_met (own := RX11) (by decide) rfl (Nat.le_of_ble_eq_true rfl) rfl ?_
  refine kk_aload_n 0 rfl e_X11_post_0 ?_
  refine kk_iload_n 1 rfl e_X11_post_1 ?_
  refine kk_callVip (As := [.int v1]) (rest := []) e_X11_post_2 ml_X11_106 ⟨_, _, _, _, rfl, rfl⟩ rfl (kk_fitR (by decide) (by decide)) (Nat.le_of_ble_eq_true rfl) rfl (s_X11_isPost Z v1 σ _ h) (fun r_1 h => ?_)
  refine kk_if_ne e_X11_post_5 (fun c_18 => ?_) (fun c_18 => ?_)
  · replace h := h.1 c_18
    refine kk_iload_n 2 rfl e_X11_post_10 ?_
    rcases kk_swc v2 4 (by decide) with ⟨i, hi, hx⟩ | hx
    · rcases (show i = 0 ∨ i = 1 ∨ i = 2 ∨ i = 3 by omega) with rfl | rfl | rfl | rfl
      · replace h := h.1 hx
        refine kk_swIn (tgt := 40) e_X11_post_11 0 hx (by decide) (by decide) rfl (by decide) ?_
        refine kk_aload_n 0 rfl e_X11_post_40 ?_
        refine kk_iload_n 1 rfl e_X11_post_41 ?_
        refine kk_aload_n 0 rfl e_X11_post_42 ?_
        refine kk_callVip (As := []) (rest := [.int v1, .ref (Z.2.1 0)]) e_X11_post_43 ml_X11_120 ⟨_, _, _, _, rfl, rfl⟩ rfl (kk_fitR (by decide) (by decide)) (Nat.le_of_ble_eq_true rfl) rfl (s_X11_allLines Z σ _ h) (fun r_2 h => ?_)
        refine kk_callVip (As := [.int v1, .int r_2]) (rest := []) e_X11_post_46 ml_X11_117 ⟨_, _, _, _, rfl, rfl⟩ rfl (kk_fitR (by decide) (by decide)) (Nat.le_of_ble_eq_true rfl) rfl (s_X11_linesAt Z v1 r_2 σ _ h) (fun r_3 h => ?_)
        exact kk_iret e_X11_post_49 ⟨rfl, h⟩
      · replace h := h.2.1 hx
        refine kk_swIn (tgt := 50) e_X11_post_11 1 hx (by decide) (by decide) rfl (by decide) ?_
        refine kk_aload_n 0 rfl e_X11_post_50 ?_
        refine kk_iload_n 1 rfl e_X11_post_51 ?_
        refine kk_callVip (As := [.int v1]) (rest := []) e_X11_post_52 ml_X11_195 ⟨_, _, _, _, rfl, rfl⟩ rfl (kk_fitR (by decide) (by decide)) (Nat.le_of_ble_eq_true rfl) rfl (s_X11_usedAt Z v1 σ _ h) (fun r_4 h => ?_)
        exact kk_iret e_X11_post_55 ⟨rfl, h⟩
      · replace h := h.2.2.1 hx
        refine kk_swIn (tgt := 56) e_X11_post_11 2 hx (by decide) (by decide) rfl (by decide) ?_
        refine kk_aload_n 0 rfl e_X11_post_56 ?_
        refine kk_iload_n 1 rfl e_X11_post_57 ?_
        refine kk_callVip (As := [.int v1]) (rest := []) e_X11_post_58 ml_X11_182 ⟨_, _, _, _, rfl, rfl⟩ rfl (kk_fitR (by decide) (by decide)) (Nat.le_of_ble_eq_true rfl) rfl (s_X11_leastFreeAt Z v1 σ _ h) (fun r_5 h => ?_)
        exact kk_iret e_X11_post_61 ⟨rfl, h⟩
      · replace h := h.2.2.2.1 hx
        refine kk_swIn (tgt := 62) e_X11_post_11 3 hx (by decide) (by decide) rfl (by decide) ?_
        refine kk_iconst ic_m1 e_X11_post_62 ?_
        refine kk_istore_n (lv' := [(3, .int (-1 : Int32)), (0, .ref (Z.2.1 0)), (1, .int v1), (2, .int v2)]) e_X11_post_63 rfl (by decide) rfl ?_
        refine kk_iconst ic_0 e_X11_post_64 ?_
        refine kk_istore (lv' := [(4, .int (0 : Int32)), (3, .int (-1 : Int32)), (0, .ref (Z.2.1 0)), (1, .int v1), (2, .int v2)]) e_X11_post_65 (by decide) rfl ?_
        refine kk_sub [2, 3, 1, 0] rfl ?_
        refine kk_lpW2 (P := fun (v3_6 : Int32) (v4_7 : Int32) => KK Z sh_M RX11 cX11_post 5 (some .int) (kk_R 6) (kk_Qi Z sh_M (fun r σ' => σ' = σ ∧ Q r)) 67 [(0, .ref (Z.2.1 0)), (1, .int v1), (3, .int v3_6), (4, .int v4_7)] [] σ) ?_ h
        intro rec_8 hrec_8 v3_6 v4_7 h
        refine kk_iload 3 rfl e_X11_post_67 ?_
        refine kk_aload_n 0 rfl e_X11_post_69 ?_
        refine kk_geti e_X11_post_70 fl_X11_96 rfl rfl ?_
        refine kk_icmp_ge e_X11_post_73 (fun c_17 => ?_) (fun c_17 => ?_)
        · replace h := h.1 c_17
          refine kk_iload_n 2 rfl e_X11_post_126 ?_
          exact kk_iret e_X11_post_127 ⟨rfl, h⟩
        · replace h := h.2 c_17
          refine kk_aload_n 0 rfl e_X11_post_76 ?_
          refine kk_iload 3 rfl e_X11_post_77 ?_
          refine kk_iload_n 1 rfl e_X11_post_79 ?_
          refine kk_callVip (As := [.int v4_7, .int v1]) (rest := []) e_X11_post_80 ml_X11_114 ⟨_, _, _, _, rfl, rfl⟩ rfl (kk_fitR (by decide) (by decide)) (Nat.le_of_ble_eq_true rfl) rfl (s_X11_isAt Z v4_7 v1 σ _ h) (fun r_9 h => ?_)
          refine kk_jW1 (P := fun (v3_10 : Int32) => KK Z sh_M RX11 cX11_post 5 (some .int) (kk_R 6) (kk_Qi Z sh_M (fun r σ' => σ' = σ ∧ Q r)) 120 [(0, .ref (Z.2.1 0)), (1, .int v1), (3, .int v3_10), (4, .int v4_7)] [] σ) h ?_ ?_
          · intro v3_10 h
            refine kk_iinc (lv' := [(4, .int (v4_7 + (1 : Int32))), (0, .ref (Z.2.1 0)), (1, .int v1), (3, .int v3_10)]) e_X11_post_120 (j := 3) rfl (ii_1 v4_7) (by decide) rfl ?_
            refine kk_goto e_X11_post_123 ?_
            exact kk_sub [1, 2, 3, 0] rfl (hrec_8 v3_10 (v4_7 + (1 : Int32)) h)
          · intro J_11 hJ_11 h
            refine kk_if_eq e_X11_post_83 (fun c_16 => ?_) (fun c_16 => ?_)
            · replace h := h.1 c_16
              exact kk_sub [0, 1, 2, 3] rfl (hJ_11 v3_6 h)
            · replace h := h.2 c_16
              refine kk_aload_n 0 rfl e_X11_post_86 ?_
              refine kk_getr e_X11_post_87 fl_X11_31 rfl rfl ?_
              refine kk_iload 3 rfl e_X11_post_90 ?_
              refine kk_iald e_X11_post_92 rfl h.1 ?_
              replace h := h.2
              refine kk_if_lt e_X11_post_93 (fun c_15 => ?_) (fun c_15 => ?_)
              · replace h := h.1 c_15
                exact kk_sub [0, 1, 2, 3] rfl (hJ_11 v3_6 h)
              · replace h := h.2 c_15
                refine kk_iload_n 2 rfl e_X11_post_96 ?_
                refine kk_iconst ic_m1 e_X11_post_97 ?_
                refine kk_jW0 (P := KK Z sh_M RX11 cX11_post 5 (some .int) (kk_R 6) (kk_Qi Z sh_M (fun r σ' => σ' = σ ∧ Q r)) 117 [(0, .ref (Z.2.1 0)), (1, .int v1), (4, .int v4_7)] [] σ) h ?_ ?_
                · intro h
                  refine kk_iload 2 rfl e_X11_post_117 ?_
                  refine kk_istore_n (lv' := [(3, .int v4_7), (0, .ref (Z.2.1 0)), (1, .int v1), (4, .int v4_7)]) e_X11_post_119 rfl (by decide) rfl ?_
                  exact kk_sub [1, 2, 0, 3] rfl (hJ_11 v4_7 h)
                · intro J_12 hJ_12 h
                  refine kk_icmp_eq e_X11_post_98 (fun c_14 => ?_) (fun c_14 => ?_)
                  · replace h := h.1 c_14
                    exact kk_sub [0, 1, 3] rfl (hJ_12 h)
                  · replace h := h.2 c_14
                    refine kk_aload_n 0 rfl e_X11_post_101 ?_
                    refine kk_getr e_X11_post_102 fl_X11_31 rfl rfl ?_
                    refine kk_iload 3 rfl e_X11_post_105 ?_
                    refine kk_iald e_X11_post_107 rfl h.1 ?_
                    replace h := h.2
                    refine kk_aload_n 0 rfl e_X11_post_108 ?_
                    refine kk_getr e_X11_post_109 fl_X11_31 rfl rfl ?_
                    refine kk_iload_n 2 rfl e_X11_post_112 ?_
                    refine kk_iald e_X11_post_113 rfl h.1 ?_
                    replace h := h.2
                    refine kk_icmp_le e_X11_post_114 (fun c_13 => ?_) (fun c_13 => ?_)
                    · replace h := h.1 c_13
                      exact kk_sub [0, 1, 2, 3] rfl (hJ_11 v3_6 h)
                    · replace h := h.2 c_13
                      exact kk_sub [0, 1, 3] rfl (hJ_12 h)
    · replace h := h.2.2.2.2 (by omega)
      refine kk_swOut (tgt := 128) e_X11_post_11 (by omega) (by decide) ?_
      refine kk_iconst ic_m1 e_X11_post_128 ?_
      exact kk_iret e_X11_post_129 ⟨rfl, h⟩
  · replace h := h.2 c_18
    refine kk_iconst ic_m1 e_X11_post_8 ?_
    exact kk_iret e_X11_post_9 ⟨rfl, h⟩
theorem e_X11_refused_0 : kk_d cX11_refused 0 (.iload_n 1) 1 1 := ⟨by decide +kernel, rfl⟩
theorem e_X11_refused_1 : kk_d cX11_refused 1 (.iconst 0) 1 2 := ⟨by decide +kernel, rfl⟩
theorem e_X11_refused_2 : kk_d cX11_refused 2 (.bipush 9) 2 4 := ⟨by decide +kernel, rfl⟩
theorem e_X11_refused_4 : kk_d cX11_refused 4 (.invokestatic 92) 3 7 := ⟨by decide +kernel, rfl⟩
theorem e_X11_refused_7 : kk_dj cX11_refused 7 (.ifCond .eq 12) 3 (12) 10 19 := ⟨by decide +kernel, rfl, by decide⟩
theorem e_X11_refused_19 : kk_d cX11_refused 19 (.iconst (-1)) 1 20 := ⟨by decide +kernel, rfl⟩
theorem e_X11_refused_20 : kk_d cX11_refused 20 .ireturn 1 21 := ⟨by decide +kernel, rfl⟩
theorem e_X11_refused_10 : kk_d cX11_refused 10 (.iload_n 2) 1 11 := ⟨by decide +kernel, rfl⟩
theorem e_X11_refused_11 : kk_d cX11_refused 11 (.iconst 0) 1 12 := ⟨by decide +kernel, rfl⟩
theorem e_X11_refused_12 : kk_d cX11_refused 12 (.iconst 1) 1 13 := ⟨by decide +kernel, rfl⟩
theorem e_X11_refused_13 : kk_d cX11_refused 13 (.invokestatic 92) 3 16 := ⟨by decide +kernel, rfl⟩
theorem e_X11_refused_16 : kk_dj cX11_refused 16 (.ifCond .ne 5) 3 (5) 19 21 := ⟨by decide +kernel, rfl, by decide⟩
theorem e_X11_refused_21 : kk_d cX11_refused 21 (.iconst 0) 1 22 := ⟨by decide +kernel, rfl⟩
theorem e_X11_refused_22 : kk_d cX11_refused 22 (.istore_n 3) 1 23 := ⟨by decide +kernel, rfl⟩
theorem e_X11_refused_23 : kk_d cX11_refused 23 (.iload_n 3) 1 24 := ⟨by decide +kernel, rfl⟩
theorem e_X11_refused_24 : kk_d cX11_refused 24 (.aload_n 0) 1 25 := ⟨by decide +kernel, rfl⟩
theorem e_X11_refused_25 : kk_d cX11_refused 25 (.getfield 21) 3 28 := ⟨by decide +kernel, rfl⟩
theorem e_X11_refused_28 : kk_dj cX11_refused 28 (.if_icmp .ge 32) 3 (32) 31 60 := ⟨by decide +kernel, rfl, by decide⟩
theorem e_X11_refused_60 : kk_d cX11_refused 60 (.aload_n 0) 1 61 := ⟨by decide +kernel, rfl⟩
theorem e_X11_refused_61 : kk_d cX11_refused 61 (.iload_n 1) 1 62 := ⟨by decide +kernel, rfl⟩
theorem e_X11_refused_62 : kk_d cX11_refused 62 (.invokevirtual 256) 3 65 := ⟨by decide +kernel, rfl⟩
theorem e_X11_refused_65 : kk_d cX11_refused 65 (.istore_n 3) 1 66 := ⟨by decide +kernel, rfl⟩
theorem e_X11_refused_66 : kk_d cX11_refused 66 (.iload_n 3) 1 67 := ⟨by decide +kernel, rfl⟩
theorem e_X11_refused_67 : kk_dj cX11_refused 67 (.ifCond .eq 13) 3 (13) 70 80 := ⟨by decide +kernel, rfl, by decide⟩
theorem e_X11_refused_80 : kk_d cX11_refused 80 (.iload_n 2) 1 81 := ⟨by decide +kernel, rfl⟩
theorem e_X11_refused_81 : kk_d cX11_refused 81 (.iconst 1) 1 82 := ⟨by decide +kernel, rfl⟩
theorem e_X11_refused_82 : kk_dj cX11_refused 82 (.if_icmp .eq 15) 3 (15) 85 97 := ⟨by decide +kernel, rfl, by decide⟩
theorem e_X11_refused_102 : kk_d cX11_refused 102 .ireturn 1 103 := ⟨by decide +kernel, rfl⟩
theorem e_X11_refused_97 : kk_d cX11_refused 97 (.iconst 0) 1 98 := ⟨by decide +kernel, rfl⟩
theorem e_X11_refused_98 : kk_dj cX11_refused 98 (.goto 4) 3 (4) 101 102 := ⟨by decide +kernel, rfl, by decide⟩
theorem e_X11_refused_85 : kk_d cX11_refused 85 (.aload_n 0) 1 86 := ⟨by decide +kernel, rfl⟩
theorem e_X11_refused_86 : kk_d cX11_refused 86 (.aload_n 0) 1 87 := ⟨by decide +kernel, rfl⟩
theorem e_X11_refused_87 : kk_d cX11_refused 87 (.invokevirtual 120) 3 90 := ⟨by decide +kernel, rfl⟩
theorem e_X11_refused_90 : kk_d cX11_refused 90 (.iload_n 1) 1 91 := ⟨by decide +kernel, rfl⟩
theorem e_X11_refused_91 : kk_d cX11_refused 91 (.invokevirtual 247) 3 94 := ⟨by decide +kernel, rfl⟩
theorem e_X11_refused_94 : kk_dj cX11_refused 94 (.ifCond .eq 7) 3 (7) 97 101 := ⟨by decide +kernel, rfl, by decide⟩
theorem e_X11_refused_101 : kk_d cX11_refused 101 (.iconst 3) 1 102 := ⟨by decide +kernel, rfl⟩
theorem e_X11_refused_70 : kk_d cX11_refused 70 (.iload_n 2) 1 71 := ⟨by decide +kernel, rfl⟩
theorem e_X11_refused_71 : kk_dj cX11_refused 71 (.ifCond .ne 7) 3 (7) 74 78 := ⟨by decide +kernel, rfl, by decide⟩
theorem e_X11_refused_79 : kk_d cX11_refused 79 .ireturn 1 80 := ⟨by decide +kernel, rfl⟩
theorem e_X11_refused_78 : kk_d cX11_refused 78 (.iload_n 3) 1 79 := ⟨by decide +kernel, rfl⟩
theorem e_X11_refused_74 : kk_d cX11_refused 74 (.iconst 2) 1 75 := ⟨by decide +kernel, rfl⟩
theorem e_X11_refused_75 : kk_dj cX11_refused 75 (.goto 4) 3 (4) 78 79 := ⟨by decide +kernel, rfl, by decide⟩
theorem e_X11_refused_31 : kk_d cX11_refused 31 (.aload_n 0) 1 32 := ⟨by decide +kernel, rfl⟩
theorem e_X11_refused_32 : kk_d cX11_refused 32 (.iload_n 3) 1 33 := ⟨by decide +kernel, rfl⟩
theorem e_X11_refused_33 : kk_d cX11_refused 33 (.aload_n 0) 1 34 := ⟨by decide +kernel, rfl⟩
theorem e_X11_refused_34 : kk_d cX11_refused 34 (.invokevirtual 120) 3 37 := ⟨by decide +kernel, rfl⟩
theorem e_X11_refused_37 : kk_d cX11_refused 37 (.invokevirtual 117) 3 40 := ⟨by decide +kernel, rfl⟩
theorem e_X11_refused_40 : kk_d cX11_refused 40 (.iload_n 1) 1 41 := ⟨by decide +kernel, rfl⟩
theorem e_X11_refused_41 : kk_dj cX11_refused 41 (.if_icmp .le 13) 3 (13) 44 54 := ⟨by decide +kernel, rfl, by decide⟩
theorem e_X11_refused_54 : kk_d cX11_refused 54 (.iinc 3 1) 3 57 := ⟨by decide +kernel, rfl⟩
theorem e_X11_refused_57 : kk_dj cX11_refused 57 (.goto (-34)) 3 (-34) 60 23 := ⟨by decide +kernel, rfl, by decide⟩
theorem e_X11_refused_44 : kk_d cX11_refused 44 (.iload_n 2) 1 45 := ⟨by decide +kernel, rfl⟩
theorem e_X11_refused_45 : kk_dj cX11_refused 45 (.ifCond .ne 7) 3 (7) 48 52 := ⟨by decide +kernel, rfl, by decide⟩
theorem e_X11_refused_53 : kk_d cX11_refused 53 .ireturn 1 54 := ⟨by decide +kernel, rfl⟩
theorem e_X11_refused_52 : kk_d cX11_refused 52 (.iload_n 3) 1 53 := ⟨by decide +kernel, rfl⟩
theorem e_X11_refused_48 : kk_d cX11_refused 48 (.iconst 1) 1 49 := ⟨by decide +kernel, rfl⟩
theorem e_X11_refused_49 : kk_dj cX11_refused 49 (.goto 4) 3 (4) 52 53 := ⟨by decide +kernel, rfl, by decide⟩
set_option maxRecDepth 4000 in
theorem s_X11_refused (Z : kk_Z) (v1 : Int32) (v2 : Int32) (σ : kk_St) (Q : Int32 → kk_St → Prop) (h : f_X11_refused v1 v2 σ Q) : kk_M Z sh_M yX11_refused cX11_refused 4 (some .int) (kk_R 8) [.ref (Z.2.1 0), .int v1, .int v2] σ (kk_Qi Z sh_M Q) := by
  unfold f_X11_refused at h
  refine kk_met (own := RX11) (by decide) rfl (Nat.le_of_ble_eq_true rfl) rfl ?_
  refine kk_iload_n 1 rfl e_X11_refused_0 ?_
  refine kk_iconst ic_0 e_X11_refused_1 ?_
  refine kk_bipush bp_9 e_X11_refused_2 ?_
  refine kk_callSip (As := [.int v1, .int (0 : Int32), .int (9 : Int32)]) (rest := []) e_X11_refused_4 ml_X11_92 rfl (kk_fitR (by decide) (by decide)) (Nat.le_of_ble_eq_true rfl) rfl (s_X11_in Z v1 (0 : Int32) (9 : Int32) σ _ h) (fun r_1 h => ?_)
  refine kk_jW0 (P := KK Z sh_M RX11 cX11_refused 4 (some .int) (kk_R 8) (kk_Qi Z sh_M Q) 19 [] [] σ) h ?_ ?_
  · intro h
    refine kk_iconst ic_m1 e_X11_refused_19 ?_
    exact kk_iret e_X11_refused_20 h
  · intro J_2 hJ_2 h
    refine kk_if_eq e_X11_refused_7 (fun c_29 => ?_) (fun c_29 => ?_)
    · replace h := h.1 c_29
      exact kk_sub [] rfl (hJ_2 h)
    · replace h := h.2 c_29
      refine kk_iload_n 2 rfl e_X11_refused_10 ?_
      refine kk_iconst ic_0 e_X11_refused_11 ?_
      refine kk_iconst ic_1 e_X11_refused_12 ?_
      refine kk_callSip (As := [.int v2, .int (0 : Int32), .int (1 : Int32)]) (rest := []) e_X11_refused_13 ml_X11_92 rfl (kk_fitR (by decide) (by decide)) (Nat.le_of_ble_eq_true rfl) rfl (s_X11_in Z v2 (0 : Int32) (1 : Int32) σ _ h) (fun r_3 h => ?_)
      refine kk_if_ne e_X11_refused_16 (fun c_28 => ?_) (fun c_28 => ?_)
      · replace h := h.1 c_28
        refine kk_iconst ic_0 e_X11_refused_21 ?_
        refine kk_istore_n (lv' := [(3, .int (0 : Int32)), (0, .ref (Z.2.1 0)), (1, .int v1), (2, .int v2)]) e_X11_refused_22 rfl (by decide) rfl ?_
        refine kk_sub [1, 2, 3, 0] rfl ?_
        refine kk_lpW1 (P := fun (v3_4 : Int32) => KK Z sh_M RX11 cX11_refused 4 (some .int) (kk_R 8) (kk_Qi Z sh_M Q) 23 [(0, .ref (Z.2.1 0)), (1, .int v1), (2, .int v2), (3, .int v3_4)] [] σ) ?_ h
        intro rec_5 hrec_5 v3_4 h
        refine kk_iload_n 3 rfl e_X11_refused_23 ?_
        refine kk_aload_n 0 rfl e_X11_refused_24 ?_
        refine kk_geti e_X11_refused_25 fl_X11_21 rfl rfl ?_
        refine kk_icmp_ge e_X11_refused_28 (fun c_27 => ?_) (fun c_27 => ?_)
        · replace h := h.1 c_27
          refine kk_aload_n 0 rfl e_X11_refused_60 ?_
          refine kk_iload_n 1 rfl e_X11_refused_61 ?_
          refine kk_callVip (As := [.int v1]) (rest := []) e_X11_refused_62 ml_X11_256 ⟨_, _, _, _, rfl, rfl⟩ rfl (kk_fitR (by decide) (by decide)) (Nat.le_of_ble_eq_true rfl) rfl (s_X11_fullSet Z v1 σ _ h) (fun r_6 h => ?_)
          refine kk_istore_n (lv' := [(3, .int r_6), (0, .ref (Z.2.1 0)), (1, .int v1), (2, .int v2)]) e_X11_refused_65 rfl (by decide) rfl ?_
          refine kk_iload_n 0 rfl e_X11_refused_66 ?_
          refine kk_if_eq e_X11_refused_67 (fun c_20 => ?_) (fun c_20 => ?_)
          · replace h := h.1 c_20
            refine kk_iload_n 3 rfl e_X11_refused_80 ?_
            refine kk_iconst ic_1 e_X11_refused_81 ?_
            refine kk_jW2 (P := fun (t_7 : Int32) (σ_8 : kk_St) => KK Z sh_M RX11 cX11_refused 4 (some .int) (kk_R 8) (kk_Qi Z sh_M Q) 102 [] [.int t_7] σ_8) h ?_ ?_
            · intro t_7 σ_8 h
              exact kk_iret e_X11_refused_102 h
            · intro J_9 hJ_9 h
              refine kk_jW1 (P := fun (σ_10 : kk_St) => KK Z sh_M RX11 cX11_refused 4 (some .int) (kk_R 8) (kk_Qi Z sh_M Q) 97 [] [] σ_10) h ?_ ?_
              · intro σ_10 h
                refine kk_iconst ic_0 e_X11_refused_97 ?_
                refine kk_goto e_X11_refused_98 ?_
                exact kk_sub [] rfl (hJ_9 (0 : Int32) σ_10 h)
              · intro J_11 hJ_11 h
                refine kk_icmp_eq e_X11_refused_82 (fun c_16 => ?_) (fun c_16 => ?_)
                · replace h := h.1 c_16
                  exact kk_sub [] rfl (hJ_11 σ h)
                · replace h := h.2 c_16
                  refine kk_aload_n 1 rfl e_X11_refused_85 ?_
                  refine kk_aload_n 1 rfl e_X11_refused_86 ?_
                  refine kk_callVip (As := []) (rest := [.ref (Z.2.1 0)]) e_X11_refused_87 ml_X11_120 ⟨_, _, _, _, rfl, rfl⟩ rfl (kk_fitR (by decide) (by decide)) (Nat.le_of_ble_eq_true rfl) rfl (s_X11_allLines Z σ _ h) (fun r_12 h => ?_)
                  refine kk_iload_n 2 rfl e_X11_refused_90 ?_
                  refine kk_callVi (As := [.int r_12, .int v1]) (rest := []) e_X11_refused_91 ml_X11_247 ⟨_, _, _, _, rfl, rfl⟩ rfl (kk_fitR (by decide) (by decide)) (Nat.le_of_ble_eq_true rfl) rfl (s_X11_laysFirst Z r_12 v1 σ _ h) (fun r_13 σ_14 h => ?_)
                  refine kk_if_eq e_X11_refused_94 (fun c_15 => ?_) (fun c_15 => ?_)
                  · replace h := h.1 c_15
                    refine kk_iconst ic_3 e_X11_refused_101 ?_
                    exact kk_sub [] rfl (hJ_9 (3 : Int32) σ_14 h)
                  · replace h := h.2 c_15
                    exact kk_sub [] rfl (hJ_11 σ_14 h)
          · replace h := h.2 c_20
            refine kk_iload_n 3 rfl e_X11_refused_70 ?_
            refine kk_jW1 (P := fun (t_17 : Int32) => KK Z sh_M RX11 cX11_refused 4 (some .int) (kk_R 8) (kk_Qi Z sh_M Q) 79 [] [.int t_17] σ) h ?_ ?_
            · intro t_17 h
              exact kk_iret e_X11_refused_79 h
            · intro J_18 hJ_18 h
              refine kk_if_ne e_X11_refused_71 (fun c_19 => ?_) (fun c_19 => ?_)
              · replace h := h.1 c_19
                refine kk_iload_n 0 rfl e_X11_refused_78 ?_
                exact kk_sub [] rfl (hJ_18 r_6 h)
              · replace h := h.2 c_19
                refine kk_iconst ic_2 e_X11_refused_74 ?_
                refine kk_goto e_X11_refused_75 ?_
                exact kk_sub [] rfl (hJ_18 (2 : Int32) h)
        · replace h := h.2 c_27
          refine kk_aload_n 0 rfl e_X11_refused_31 ?_
          refine kk_iload_n 3 rfl e_X11_refused_32 ?_
          refine kk_aload_n 0 rfl e_X11_refused_33 ?_
          refine kk_callVip (As := []) (rest := [.int v3_4, .ref (Z.2.1 0)]) e_X11_refused_34 ml_X11_120 ⟨_, _, _, _, rfl, rfl⟩ rfl (kk_fitR (by decide) (by decide)) (Nat.le_of_ble_eq_true rfl) rfl (s_X11_allLines Z σ _ h) (fun r_21 h => ?_)
          refine kk_callVip (As := [.int v3_4, .int r_21]) (rest := []) e_X11_refused_37 ml_X11_117 ⟨_, _, _, _, rfl, rfl⟩ rfl (kk_fitR (by decide) (by decide)) (Nat.le_of_ble_eq_true rfl) rfl (s_X11_linesAt Z v3_4 r_21 σ _ h) (fun r_22 h => ?_)
          refine kk_iload_n 1 rfl e_X11_refused_40 ?_
          refine kk_icmp_le e_X11_refused_41 (fun c_26 => ?_) (fun c_26 => ?_)
          · replace h := h.1 c_26
            refine kk_iinc (lv' := [(3, .int (v3_4 + (1 : Int32))), (0, .ref (Z.2.1 0)), (1, .int v1), (2, .int v2)]) e_X11_refused_54 (j := 3) rfl (ii_1 v3_4) (by decide) rfl ?_
            refine kk_goto e_X11_refused_57 ?_
            exact kk_sub [1, 2, 3, 0] rfl (hrec_5 (v3_4 + (1 : Int32)) h)
          · replace h := h.2 c_26
            refine kk_iload_n 2 rfl e_X11_refused_44 ?_
            refine kk_jW1 (P := fun (t_23 : Int32) => KK Z sh_M RX11 cX11_refused 4 (some .int) (kk_R 8) (kk_Qi Z sh_M Q) 53 [] [.int t_23] σ) h ?_ ?_
            · intro t_23 h
              exact kk_iret e_X11_refused_53 h
            · intro J_24 hJ_24 h
              refine kk_if_ne e_X11_refused_45 (fun c_25 => ?_) (fun c_25 => ?_)
              · replace h := h.1 c_25
                refine kk_iload_n 3 rfl e_X11_refused_52 ?_
                exact kk_sub [] rfl (hJ_24 v3_4 h)
              · replace h := h.2 c_25
                refine kk_iconst ic_1 e_X11_refused_48 ?_
                refine kk_goto e_X11_refused_49 ?_
                exact kk_sub [] rfl (hJ_24 (1 : Int32) h)
      · replace h := h.2 c_28
        exact kk_sub [] rfl (hJ_2 h)
theorem e_X11_sets_0 : kk_d cX11_sets 0 (.iload_n 1) 1 1 := ⟨by decide +kernel, rfl⟩
theorem e_X11_sets_1 : kk_d cX11_sets 1 (.iconst 0) 1 2 := ⟨by decide +kernel, rfl⟩
theorem e_X11_sets_2 : kk_d cX11_sets 2 (.iconst 4) 1 3 := ⟨by decide +kernel, rfl⟩
theorem e_X11_sets_3 : kk_d cX11_sets 3 (.invokestatic 92) 3 6 := ⟨by decide +kernel, rfl⟩
theorem e_X11_sets_6 : kk_dj cX11_sets 6 (.ifCond .ne 5) 3 (5) 9 11 := ⟨by decide +kernel, rfl, by decide⟩
theorem e_X11_sets_11 : kk_d cX11_sets 11 (.iconst 0) 1 12 := ⟨by decide +kernel, rfl⟩
theorem e_X11_sets_12 : kk_d cX11_sets 12 (.istore_n 2) 1 13 := ⟨by decide +kernel, rfl⟩
theorem e_X11_sets_13 : kk_d cX11_sets 13 (.iload_n 2) 1 14 := ⟨by decide +kernel, rfl⟩
theorem e_X11_sets_14 : kk_d cX11_sets 14 (.sipush 2560) 3 17 := ⟨by decide +kernel, rfl⟩
theorem e_X11_sets_17 : kk_dj cX11_sets 17 (.if_icmp .ge 16) 3 (16) 20 33 := ⟨by decide +kernel, rfl, by decide⟩
theorem e_X11_sets_33 : kk_d cX11_sets 33 (.aload_n 0) 1 34 := ⟨by decide +kernel, rfl⟩
theorem e_X11_sets_34 : kk_d cX11_sets 34 (.getfield 89) 3 37 := ⟨by decide +kernel, rfl⟩
theorem e_X11_sets_37 : kk_d cX11_sets 37 (.iconst 5) 1 38 := ⟨by decide +kernel, rfl⟩
theorem e_X11_sets_38 : kk_d cX11_sets 38 (.aload_n 0) 1 39 := ⟨by decide +kernel, rfl⟩
theorem e_X11_sets_39 : kk_d cX11_sets 39 (.invokevirtual 238) 3 42 := ⟨by decide +kernel, rfl⟩
theorem e_X11_sets_42 : kk_d cX11_sets 42 .imul 1 43 := ⟨by decide +kernel, rfl⟩
theorem e_X11_sets_43 : kk_d cX11_sets 43 (.iconst 1) 1 44 := ⟨by decide +kernel, rfl⟩
theorem e_X11_sets_44 : kk_d cX11_sets 44 .iastore 1 45 := ⟨by decide +kernel, rfl⟩
theorem e_X11_sets_45 : kk_d cX11_sets 45 (.iconst 0) 1 46 := ⟨by decide +kernel, rfl⟩
theorem e_X11_sets_46 : kk_d cX11_sets 46 (.istore_n 2) 1 47 := ⟨by decide +kernel, rfl⟩
theorem e_X11_sets_47 : kk_d cX11_sets 47 (.iload_n 2) 1 48 := ⟨by decide +kernel, rfl⟩
theorem e_X11_sets_48 : kk_d cX11_sets 48 (.aload_n 0) 1 49 := ⟨by decide +kernel, rfl⟩
theorem e_X11_sets_49 : kk_d cX11_sets 49 (.getfield 96) 3 52 := ⟨by decide +kernel, rfl⟩
theorem e_X11_sets_52 : kk_dj cX11_sets 52 (.if_icmp .ge 83) 3 (83) 55 135 := ⟨by decide +kernel, rfl, by decide⟩
theorem e_X11_sets_135 : kk_d cX11_sets 135 (.iconst 0) 1 136 := ⟨by decide +kernel, rfl⟩
theorem e_X11_sets_136 : kk_d cX11_sets 136 (.istore_n 2) 1 137 := ⟨by decide +kernel, rfl⟩
theorem e_X11_sets_137 : kk_d cX11_sets 137 (.iconst 0) 1 138 := ⟨by decide +kernel, rfl⟩
theorem e_X11_sets_138 : kk_d cX11_sets 138 (.istore_n 3) 1 139 := ⟨by decide +kernel, rfl⟩
theorem e_X11_sets_139 : kk_d cX11_sets 139 (.iload_n 3) 1 140 := ⟨by decide +kernel, rfl⟩
theorem e_X11_sets_140 : kk_d cX11_sets 140 (.sipush 512) 3 143 := ⟨by decide +kernel, rfl⟩
theorem e_X11_sets_143 : kk_dj cX11_sets 143 (.if_icmp .ge 22) 3 (22) 146 165 := ⟨by decide +kernel, rfl, by decide⟩
theorem e_X11_sets_165 : kk_d cX11_sets 165 (.iload_n 2) 1 166 := ⟨by decide +kernel, rfl⟩
theorem e_X11_sets_166 : kk_d cX11_sets 166 .ireturn 1 167 := ⟨by decide +kernel, rfl⟩
theorem e_X11_sets_146 : kk_d cX11_sets 146 (.iload_n 2) 1 147 := ⟨by decide +kernel, rfl⟩
theorem e_X11_sets_147 : kk_d cX11_sets 147 (.aload_n 0) 1 148 := ⟨by decide +kernel, rfl⟩
theorem e_X11_sets_148 : kk_d cX11_sets 148 (.getfield 89) 3 151 := ⟨by decide +kernel, rfl⟩
theorem e_X11_sets_151 : kk_d cX11_sets 151 (.iconst 5) 1 152 := ⟨by decide +kernel, rfl⟩
theorem e_X11_sets_152 : kk_d cX11_sets 152 (.iload_n 3) 1 153 := ⟨by decide +kernel, rfl⟩
theorem e_X11_sets_153 : kk_d cX11_sets 153 .imul 1 154 := ⟨by decide +kernel, rfl⟩
theorem e_X11_sets_154 : kk_d cX11_sets 154 (.iload_n 1) 1 155 := ⟨by decide +kernel, rfl⟩
theorem e_X11_sets_155 : kk_d cX11_sets 155 .iadd 1 156 := ⟨by decide +kernel, rfl⟩
theorem e_X11_sets_156 : kk_d cX11_sets 156 .iaload 1 157 := ⟨by decide +kernel, rfl⟩
theorem e_X11_sets_157 : kk_d cX11_sets 157 .iadd 1 158 := ⟨by decide +kernel, rfl⟩
theorem e_X11_sets_158 : kk_d cX11_sets 158 (.istore_n 2) 1 159 := ⟨by decide +kernel, rfl⟩
theorem e_X11_sets_159 : kk_d cX11_sets 159 (.iinc 3 1) 3 162 := ⟨by decide +kernel, rfl⟩
theorem e_X11_sets_162 : kk_dj cX11_sets 162 (.goto (-23)) 3 (-23) 165 139 := ⟨by decide +kernel, rfl, by decide⟩
theorem e_X11_sets_55 : kk_d cX11_sets 55 (.iconst 0) 1 56 := ⟨by decide +kernel, rfl⟩
theorem e_X11_sets_56 : kk_d cX11_sets 56 (.istore_n 3) 1 57 := ⟨by decide +kernel, rfl⟩
theorem e_X11_sets_57 : kk_d cX11_sets 57 (.iload_n 3) 1 58 := ⟨by decide +kernel, rfl⟩
theorem e_X11_sets_58 : kk_d cX11_sets 58 (.sipush 512) 3 61 := ⟨by decide +kernel, rfl⟩
theorem e_X11_sets_61 : kk_dj cX11_sets 61 (.if_icmp .ge 68) 3 (68) 64 129 := ⟨by decide +kernel, rfl, by decide⟩
theorem e_X11_sets_129 : kk_d cX11_sets 129 (.iinc 2 1) 3 132 := ⟨by decide +kernel, rfl⟩
theorem e_X11_sets_132 : kk_dj cX11_sets 132 (.goto (-85)) 3 (-85) 135 47 := ⟨by decide +kernel, rfl, by decide⟩
theorem e_X11_sets_64 : kk_d cX11_sets 64 (.aload_n 0) 1 65 := ⟨by decide +kernel, rfl⟩
theorem e_X11_sets_65 : kk_d cX11_sets 65 (.iload_n 3) 1 66 := ⟨by decide +kernel, rfl⟩
theorem e_X11_sets_66 : kk_d cX11_sets 66 (.iload_n 2) 1 67 := ⟨by decide +kernel, rfl⟩
theorem e_X11_sets_67 : kk_d cX11_sets 67 (.invokevirtual 299) 3 70 := ⟨by decide +kernel, rfl⟩
theorem e_X11_sets_70 : kk_dj cX11_sets 70 (.ifCond .ne 6) 3 (6) 73 76 := ⟨by decide +kernel, rfl, by decide⟩
theorem e_X11_sets_123 : kk_d cX11_sets 123 (.iinc 3 1) 3 126 := ⟨by decide +kernel, rfl⟩
theorem e_X11_sets_126 : kk_dj cX11_sets 126 (.goto (-69)) 3 (-69) 129 57 := ⟨by decide +kernel, rfl, by decide⟩
theorem e_X11_sets_76 : kk_d cX11_sets 76 (.iconst 0) 1 77 := ⟨by decide +kernel, rfl⟩
theorem e_X11_sets_77 : kk_d cX11_sets 77 (.istore 4) 2 79 := ⟨by decide +kernel, rfl⟩
theorem e_X11_sets_79 : kk_d cX11_sets 79 (.iload 4) 2 81 := ⟨by decide +kernel, rfl⟩
theorem e_X11_sets_81 : kk_d cX11_sets 81 (.iconst 4) 1 82 := ⟨by decide +kernel, rfl⟩
theorem e_X11_sets_82 : kk_dj cX11_sets 82 (.if_icmp .ge 41) 3 (41) 85 123 := ⟨by decide +kernel, rfl, by decide⟩
theorem e_X11_sets_85 : kk_d cX11_sets 85 (.aload_n 0) 1 86 := ⟨by decide +kernel, rfl⟩
theorem e_X11_sets_86 : kk_d cX11_sets 86 (.getfield 89) 3 89 := ⟨by decide +kernel, rfl⟩
theorem e_X11_sets_89 : kk_d cX11_sets 89 (.iconst 5) 1 90 := ⟨by decide +kernel, rfl⟩
theorem e_X11_sets_90 : kk_d cX11_sets 90 (.aload_n 0) 1 91 := ⟨by decide +kernel, rfl⟩
theorem e_X11_sets_91 : kk_d cX11_sets 91 (.iload_n 3) 1 92 := ⟨by decide +kernel, rfl⟩
theorem e_X11_sets_92 : kk_d cX11_sets 92 (.iload_n 2) 1 93 := ⟨by decide +kernel, rfl⟩
theorem e_X11_sets_93 : kk_d cX11_sets 93 (.invokevirtual 302) 3 96 := ⟨by decide +kernel, rfl⟩
theorem e_X11_sets_96 : kk_d cX11_sets 96 .imul 1 97 := ⟨by decide +kernel, rfl⟩
theorem e_X11_sets_97 : kk_d cX11_sets 97 (.iload 4) 2 99 := ⟨by decide +kernel, rfl⟩
theorem e_X11_sets_99 : kk_d cX11_sets 99 .iadd 1 100 := ⟨by decide +kernel, rfl⟩
theorem e_X11_sets_100 : kk_d cX11_sets 100 (.iconst 1) 1 101 := ⟨by decide +kernel, rfl⟩
theorem e_X11_sets_101 : kk_d cX11_sets 101 .iadd 1 102 := ⟨by decide +kernel, rfl⟩
theorem e_X11_sets_102 : kk_d cX11_sets 102 .dup2 1 103 := ⟨by decide +kernel, rfl⟩
theorem e_X11_sets_103 : kk_d cX11_sets 103 .iaload 1 104 := ⟨by decide +kernel, rfl⟩
theorem e_X11_sets_104 : kk_d cX11_sets 104 (.aload_n 0) 1 105 := ⟨by decide +kernel, rfl⟩
theorem e_X11_sets_105 : kk_d cX11_sets 105 (.getfield 89) 3 108 := ⟨by decide +kernel, rfl⟩
theorem e_X11_sets_108 : kk_d cX11_sets 108 (.iconst 5) 1 109 := ⟨by decide +kernel, rfl⟩
theorem e_X11_sets_109 : kk_d cX11_sets 109 (.iload_n 3) 1 110 := ⟨by decide +kernel, rfl⟩
theorem e_X11_sets_110 : kk_d cX11_sets 110 .imul 1 111 := ⟨by decide +kernel, rfl⟩
theorem e_X11_sets_111 : kk_d cX11_sets 111 (.iload 4) 2 113 := ⟨by decide +kernel, rfl⟩
theorem e_X11_sets_113 : kk_d cX11_sets 113 .iadd 1 114 := ⟨by decide +kernel, rfl⟩
theorem e_X11_sets_114 : kk_d cX11_sets 114 .iaload 1 115 := ⟨by decide +kernel, rfl⟩
theorem e_X11_sets_115 : kk_d cX11_sets 115 .iadd 1 116 := ⟨by decide +kernel, rfl⟩
theorem e_X11_sets_116 : kk_d cX11_sets 116 .iastore 1 117 := ⟨by decide +kernel, rfl⟩
theorem e_X11_sets_117 : kk_d cX11_sets 117 (.iinc 4 1) 3 120 := ⟨by decide +kernel, rfl⟩
theorem e_X11_sets_120 : kk_dj cX11_sets 120 (.goto (-41)) 3 (-41) 123 79 := ⟨by decide +kernel, rfl, by decide⟩
theorem e_X11_sets_73 : kk_dj cX11_sets 73 (.goto 50) 3 (50) 76 123 := ⟨by decide +kernel, rfl, by decide⟩
theorem e_X11_sets_20 : kk_d cX11_sets 20 (.aload_n 0) 1 21 := ⟨by decide +kernel, rfl⟩
theorem e_X11_sets_21 : kk_d cX11_sets 21 (.getfield 89) 3 24 := ⟨by decide +kernel, rfl⟩
theorem e_X11_sets_24 : kk_d cX11_sets 24 (.iload_n 2) 1 25 := ⟨by decide +kernel, rfl⟩
theorem e_X11_sets_25 : kk_d cX11_sets 25 (.iconst 0) 1 26 := ⟨by decide +kernel, rfl⟩
theorem e_X11_sets_26 : kk_d cX11_sets 26 .iastore 1 27 := ⟨by decide +kernel, rfl⟩
theorem e_X11_sets_27 : kk_d cX11_sets 27 (.iinc 2 1) 3 30 := ⟨by decide +kernel, rfl⟩
theorem e_X11_sets_30 : kk_dj cX11_sets 30 (.goto (-17)) 3 (-17) 33 13 := ⟨by decide +kernel, rfl, by decide⟩
theorem e_X11_sets_9 : kk_d cX11_sets 9 (.iconst (-1)) 1 10 := ⟨by decide +kernel, rfl⟩
theorem e_X11_sets_10 : kk_d cX11_sets 10 .ireturn 1 11 := ⟨by decide +kernel, rfl⟩
set_option maxRecDepth 4000 in
theorem s_X11_sets (Z : kk_Z) (v1 : Int32) (σ : kk_St) (Q : Int32 → kk_St → Prop) (h : f_X11_sets v1 σ Q) : kk_M Z sh_M yX11_sets cX11_sets 5 (some .int) (kk_R 4) [.ref (Z.2.1 0), .int v1] σ (kk_Qi Z sh_M Q) := by
  unfold f_X11_sets at h
  refine kk_met (own := RX11) (by decide) rfl (Nat.le_of_ble_eq_true rfl) rfl ?_
  refine kk_iload_n 1 rfl e_X11_sets_0 ?_
  refine kk_iconst ic_0 e_X11_sets_1 ?_
  refine kk_iconst ic_4 e_X11_sets_2 ?_
  refine kk_callSip (As := [.int v1, .int (0 : Int32), .int (4 : Int32)]) (rest := []) e_X11_sets_3 ml_X11_92 rfl (kk_fitR (by decide) (by decide)) (Nat.le_of_ble_eq_true rfl) rfl (s_X11_in Z v1 (0 : Int32) (4 : Int32) σ _ h) (fun r_1 h => ?_)
  refine kk_if_ne e_X11_sets_6 (fun c_32 => ?_) (fun c_32 => ?_)
  · replace h := h.1 c_32
    refine kk_iconst ic_0 e_X11_sets_11 ?_
    refine kk_istore_n (lv' := [(2, .int (0 : Int32)), (0, .ref (Z.2.1 0)), (1, .int v1)]) e_X11_sets_12 rfl (by decide) rfl ?_
    refine kk_sub [1, 2, 0] rfl ?_
    refine kk_lpW2 (P := fun (v2_2 : Int32) (σ_3 : kk_St) => KK Z sh_M RX11 cX11_sets 5 (some .int) (kk_R 4) (kk_Qi Z sh_M Q) 13 [(0, .ref (Z.2.1 0)), (1, .int v1), (2, .int v2_2)] [] σ_3) ?_ h
    intro rec_4 hrec_4 v2_2 σ_3 h
    refine kk_iload_n 2 rfl e_X11_sets_13 ?_
    refine kk_sipush sp_2560 e_X11_sets_14 ?_
    refine kk_icmp_ge e_X11_sets_17 (fun c_31 => ?_) (fun c_31 => ?_)
    · replace h := h.1 c_31
      refine kk_aload_n 0 rfl e_X11_sets_33 ?_
      refine kk_getr e_X11_sets_34 fl_X11_89 rfl rfl ?_
      refine kk_iconst ic_5 e_X11_sets_37 ?_
      refine kk_aload_n 0 rfl e_X11_sets_38 ?_
      refine kk_callVip (As := []) (rest := [.int (5 : Int32), .ref (Z.2.1 22)]) e_X11_sets_39 ml_X11_238 ⟨_, _, _, _, rfl, rfl⟩ rfl (kk_fitR (by decide) (by decide)) (Nat.le_of_ble_eq_true rfl) rfl (s_X11_allPosts Z σ_3 _ h) (fun r_5 h => ?_)
      refine kk_imul e_X11_sets_42 ?_
      refine kk_iconst ic_1 e_X11_sets_43 ?_
      refine kk_iast e_X11_sets_44 rfl h.1 ?_
      replace h := h.2
      refine kk_tops (fun σ_6 eσ_6 => ?_)
      replace h := h σ_6 eσ_6
      refine kk_iconst ic_0 e_X11_sets_45 ?_
      refine kk_istore_n (lv' := [(2, .int (0 : Int32)), (0, .ref (Z.2.1 0)), (1, .int v1)]) e_X11_sets_46 rfl (by decide) rfl ?_
      refine kk_sub [1, 2, 0] rfl ?_
      refine kk_lpW2 (P := fun (v2_7 : Int32) (σ_8 : kk_St) => KK Z sh_M RX11 cX11_sets 5 (some .int) (kk_R 4) (kk_Qi Z sh_M Q) 47 [(0, .ref (Z.2.1 0)), (1, .int v1), (2, .int v2_7)] [] σ_8) ?_ h
      intro rec_9 hrec_9 v2_7 σ_8 h
      refine kk_iload_n 2 rfl e_X11_sets_47 ?_
      refine kk_aload_n 0 rfl e_X11_sets_48 ?_
      refine kk_geti e_X11_sets_49 fl_X11_96 rfl rfl ?_
      refine kk_icmp_ge e_X11_sets_52 (fun c_29 => ?_) (fun c_29 => ?_)
      · replace h := h.1 c_29
        refine kk_iconst ic_0 e_X11_sets_135 ?_
        refine kk_istore_n (lv' := [(2, .int (0 : Int32)), (0, .ref (Z.2.1 0)), (1, .int v1)]) e_X11_sets_136 rfl (by decide) rfl ?_
        refine kk_iconst ic_0 e_X11_sets_137 ?_
        refine kk_istore_n (lv' := [(3, .int (0 : Int32)), (2, .int (0 : Int32)), (0, .ref (Z.2.1 0)), (1, .int v1)]) e_X11_sets_138 rfl (by decide) rfl ?_
        refine kk_sub [2, 3, 1, 0] rfl ?_
        refine kk_lpW2 (P := fun (v2_10 : Int32) (v3_11 : Int32) => KK Z sh_M RX11 cX11_sets 5 (some .int) (kk_R 4) (kk_Qi Z sh_M Q) 139 [(0, .ref (Z.2.1 0)), (1, .int v1), (2, .int v2_10), (3, .int v3_11)] [] σ_8) ?_ h
        intro rec_12 hrec_12 v2_10 v3_11 h
        refine kk_iload_n 3 rfl e_X11_sets_139 ?_
        refine kk_sipush sp_512 e_X11_sets_140 ?_
        refine kk_icmp_ge e_X11_sets_143 (fun c_14 => ?_) (fun c_14 => ?_)
        · replace h := h.1 c_14
          refine kk_iload_n 2 rfl e_X11_sets_165 ?_
          exact kk_iret e_X11_sets_166 h
        · replace h := h.2 c_14
          refine kk_iload_n 2 rfl e_X11_sets_146 ?_
          refine kk_aload_n 0 rfl e_X11_sets_147 ?_
          refine kk_getr e_X11_sets_148 fl_X11_89 rfl rfl ?_
          refine kk_iconst ic_5 e_X11_sets_151 ?_
          refine kk_iload_n 3 rfl e_X11_sets_152 ?_
          refine kk_imul e_X11_sets_153 ?_
          refine kk_iload_n 1 rfl e_X11_sets_154 ?_
          refine kk_iadd e_X11_sets_155 ?_
          refine kk_iald e_X11_sets_156 rfl h.1 ?_
          replace h := h.2
          refine kk_iadd e_X11_sets_157 ?_
          refine kk_topi (fun v2_13 ev2_13 => ?_)
          replace h := h v2_13 ev2_13
          refine kk_istore_n (lv' := [(2, .int v2_13), (0, .ref (Z.2.1 0)), (1, .int v1), (3, .int v3_11)]) e_X11_sets_158 rfl (by decide) rfl ?_
          refine kk_iinc (lv' := [(3, .int (v3_11 + (1 : Int32))), (2, .int v2_13), (0, .ref (Z.2.1 0)), (1, .int v1)]) e_X11_sets_159 (j := 3) rfl (ii_1 v3_11) (by decide) rfl ?_
          refine kk_goto e_X11_sets_162 ?_
          exact kk_sub [2, 3, 1, 0] rfl (hrec_12 v2_13 (v3_11 + (1 : Int32)) h)
      · replace h := h.2 c_29
        refine kk_iconst ic_0 e_X11_sets_55 ?_
        refine kk_istore_n (lv' := [(3, .int (0 : Int32)), (0, .ref (Z.2.1 0)), (1, .int v1), (2, .int v2_7)]) e_X11_sets_56 rfl (by decide) rfl ?_
        refine kk_sub [1, 2, 3, 0] rfl ?_
        refine kk_lpW2 (P := fun (v3_15 : Int32) (σ_16 : kk_St) => KK Z sh_M RX11 cX11_sets 5 (some .int) (kk_R 4) (kk_Qi Z sh_M Q) 57 [(0, .ref (Z.2.1 0)), (1, .int v1), (2, .int v2_7), (3, .int v3_15)] [] σ_16) ?_ h
        intro rec_17 hrec_17 v3_15 σ_16 h
        refine kk_iload_n 3 rfl e_X11_sets_57 ?_
        refine kk_sipush sp_512 e_X11_sets_58 ?_
        refine kk_icmp_ge e_X11_sets_61 (fun c_28 => ?_) (fun c_28 => ?_)
        · replace h := h.1 c_28
          refine kk_iinc (lv' := [(2, .int (v2_7 + (1 : Int32))), (0, .ref (Z.2.1 0)), (1, .int v1), (3, .int v3_15)]) e_X11_sets_129 (j := 2) rfl (ii_1 v2_7) (by decide) rfl ?_
          refine kk_goto e_X11_sets_132 ?_
          exact kk_sub [1, 2, 0] rfl (hrec_9 (v2_7 + (1 : Int32)) σ_16 h)
        · replace h := h.2 c_28
          refine kk_aload_n 0 rfl e_X11_sets_64 ?_
          refine kk_iload_n 3 rfl e_X11_sets_65 ?_
          refine kk_iload_n 2 rfl e_X11_sets_66 ?_
          refine kk_callVip (As := [.int v3_15, .int v2_7]) (rest := []) e_X11_sets_67 ml_X11_299 ⟨_, _, _, _, rfl, rfl⟩ rfl (kk_fitR (by decide) (by decide)) (Nat.le_of_ble_eq_true rfl) rfl (s_X11_areThere Z v3_15 v2_7 σ_16 _ h) (fun r_18 h => ?_)
          refine kk_jW1 (P := fun (σ_19 : kk_St) => KK Z sh_M RX11 cX11_sets 5 (some .int) (kk_R 4) (kk_Qi Z sh_M Q) 123 [(0, .ref (Z.2.1 0)), (1, .int v1), (2, .int v2_7), (3, .int v3_15)] [] σ_19) h ?_ ?_
          · intro σ_19 h
            refine kk_iinc (lv' := [(3, .int (v3_15 + (1 : Int32))), (0, .ref (Z.2.1 0)), (1, .int v1), (2, .int v2_7)]) e_X11_sets_123 (j := 3) rfl (ii_1 v3_15) (by decide) rfl ?_
            refine kk_goto e_X11_sets_126 ?_
            exact kk_sub [1, 2, 3, 0] rfl (hrec_17 (v3_15 + (1 : Int32)) σ_19 h)
          · intro J_20 hJ_20 h
            refine kk_if_ne e_X11_sets_70 (fun c_27 => ?_) (fun c_27 => ?_)
            · replace h := h.1 c_27
              refine kk_iconst ic_0 e_X11_sets_76 ?_
              refine kk_istore (lv' := [(4, .int (0 : Int32)), (0, .ref (Z.2.1 0)), (1, .int v1), (2, .int v2_7), (3, .int v3_15)]) e_X11_sets_77 (by decide) rfl ?_
              refine kk_sub [1, 2, 3, 4, 0] rfl ?_
              refine kk_lpW2 (P := fun (v4_21 : Int32) (σ_22 : kk_St) => KK Z sh_M RX11 cX11_sets 5 (some .int) (kk_R 4) (kk_Qi Z sh_M Q) 79 [(0, .ref (Z.2.1 0)), (1, .int v1), (2, .int v2_7), (3, .int v3_15), (4, .int v4_21)] [] σ_22) ?_ h
              intro rec_23 hrec_23 v4_21 σ_22 h
              refine kk_iload 4 rfl e_X11_sets_79 ?_
              refine kk_iconst ic_4 e_X11_sets_81 ?_
              refine kk_icmp_ge e_X11_sets_82 (fun c_26 => ?_) (fun c_26 => ?_)
              · replace h := h.1 c_26
                exact kk_sub [0, 1, 2, 3] rfl (hJ_20 σ_22 h)
              · replace h := h.2 c_26
                refine kk_aload_n 0 rfl e_X11_sets_85 ?_
                refine kk_getr e_X11_sets_86 fl_X11_89 rfl rfl ?_
                refine kk_iconst ic_5 e_X11_sets_89 ?_
                refine kk_aload_n 0 rfl e_X11_sets_90 ?_
                refine kk_iload_n 3 rfl e_X11_sets_91 ?_
                refine kk_iload_n 2 rfl e_X11_sets_92 ?_
                refine kk_callVip (As := [.int v3_15, .int v2_7]) (rest := [.int (5 : Int32), .ref (Z.2.1 22)]) e_X11_sets_93 ml_X11_302 ⟨_, _, _, _, rfl, rfl⟩ rfl (kk_fitR (by decide) (by decide)) (Nat.le_of_ble_eq_true rfl) rfl (s_X11_without Z v3_15 v2_7 σ_22 _ h) (fun r_24 h => ?_)
                refine kk_imul e_X11_sets_96 ?_
                refine kk_iload 4 rfl e_X11_sets_97 ?_
                refine kk_iadd e_X11_sets_99 ?_
                refine kk_iconst ic_1 e_X11_sets_100 ?_
                refine kk_iadd e_X11_sets_101 ?_
                refine kk_dup2 rfl rfl e_X11_sets_102 ?_
                refine kk_iald e_X11_sets_103 rfl h.1 ?_
                replace h := h.2
                refine kk_aload_n 0 rfl e_X11_sets_104 ?_
                refine kk_getr e_X11_sets_105 fl_X11_89 rfl rfl ?_
                refine kk_iconst ic_5 e_X11_sets_108 ?_
                refine kk_iload_n 3 rfl e_X11_sets_109 ?_
                refine kk_imul e_X11_sets_110 ?_
                refine kk_iload 4 rfl e_X11_sets_111 ?_
                refine kk_iadd e_X11_sets_113 ?_
                refine kk_iald e_X11_sets_114 rfl h.1 ?_
                replace h := h.2
                refine kk_iadd e_X11_sets_115 ?_
                refine kk_iast e_X11_sets_116 rfl h.1 ?_
                replace h := h.2
                refine kk_tops (fun σ_25 eσ_25 => ?_)
                replace h := h σ_25 eσ_25
                refine kk_iinc (lv' := [(4, .int (v4_21 + (1 : Int32))), (0, .ref (Z.2.1 0)), (1, .int v1), (2, .int v2_7), (3, .int v3_15)]) e_X11_sets_117 (j := 4) rfl (ii_1 v4_21) (by decide) rfl ?_
                refine kk_goto e_X11_sets_120 ?_
                exact kk_sub [1, 2, 3, 4, 0] rfl (hrec_23 (v4_21 + (1 : Int32)) σ_25 h)
            · replace h := h.2 c_27
              refine kk_goto e_X11_sets_73 ?_
              exact kk_sub [0, 1, 2, 3] rfl (hJ_20 σ_16 h)
    · replace h := h.2 c_31
      refine kk_aload_n 0 rfl e_X11_sets_20 ?_
      refine kk_getr e_X11_sets_21 fl_X11_89 rfl rfl ?_
      refine kk_iload_n 2 rfl e_X11_sets_24 ?_
      refine kk_iconst ic_0 e_X11_sets_25 ?_
      refine kk_iast e_X11_sets_26 rfl h.1 ?_
      replace h := h.2
      refine kk_tops (fun σ_30 eσ_30 => ?_)
      replace h := h σ_30 eσ_30
      refine kk_iinc (lv' := [(2, .int (v2_2 + (1 : Int32))), (0, .ref (Z.2.1 0)), (1, .int v1)]) e_X11_sets_27 (j := 2) rfl (ii_1 v2_2) (by decide) rfl ?_
      refine kk_goto e_X11_sets_30 ?_
      exact kk_sub [1, 2, 0] rfl (hrec_4 (v2_2 + (1 : Int32)) σ_30 h)
  · replace h := h.2 c_32
    refine kk_iconst ic_m1 e_X11_sets_9 ?_
    exact kk_iret e_X11_sets_10 h
theorem e_X11_sides_0 : kk_d cX11_sides 0 (.iload_n 1) 1 1 := ⟨by decide +kernel, rfl⟩
theorem e_X11_sides_1 : kk_d cX11_sides 1 (.iconst 0) 1 2 := ⟨by decide +kernel, rfl⟩
theorem e_X11_sides_2 : kk_d cX11_sides 2 (.iconst 2) 1 3 := ⟨by decide +kernel, rfl⟩
theorem e_X11_sides_3 : kk_d cX11_sides 3 (.invokestatic 92) 3 6 := ⟨by decide +kernel, rfl⟩
theorem e_X11_sides_6 : kk_dj cX11_sides 6 (.ifCond .ne 5) 3 (5) 9 11 := ⟨by decide +kernel, rfl, by decide⟩
theorem e_X11_sides_11 : kk_d cX11_sides 11 (.iload_n 1) 1 12 := ⟨by decide +kernel, rfl⟩
theorem e_X11_sides_12 : kk_d cX11_sides 12 (.iconst 2) 1 13 := ⟨by decide +kernel, rfl⟩
theorem e_X11_sides_13 : kk_dj cX11_sides 13 (.if_icmp .ne 8) 3 (8) 16 21 := ⟨by decide +kernel, rfl, by decide⟩
theorem e_X11_sides_21 : kk_d cX11_sides 21 (.aload_n 0) 1 22 := ⟨by decide +kernel, rfl⟩
theorem e_X11_sides_22 : kk_d cX11_sides 22 (.invokevirtual 191) 3 25 := ⟨by decide +kernel, rfl⟩
theorem e_X11_sides_25 : kk_d cX11_sides 25 (.istore_n 2) 1 26 := ⟨by decide +kernel, rfl⟩
theorem e_X11_sides_26 : kk_d cX11_sides 26 (.iload_n 1) 1 27 := ⟨by decide +kernel, rfl⟩
theorem e_X11_sides_27 : kk_dj cX11_sides 27 (.ifCond .ne 13) 3 (13) 30 40 := ⟨by decide +kernel, rfl, by decide⟩
theorem e_X11_sides_40 : kk_d cX11_sides 40 (.iload_n 2) 1 41 := ⟨by decide +kernel, rfl⟩
theorem e_X11_sides_41 : kk_dj cX11_sides 41 (.ifCond .ne 6) 3 (6) 44 47 := ⟨by decide +kernel, rfl, by decide⟩
theorem e_X11_sides_47 : kk_d cX11_sides 47 (.iconst 0) 1 48 := ⟨by decide +kernel, rfl⟩
theorem e_X11_sides_48 : kk_d cX11_sides 48 (.istore_n 3) 1 49 := ⟨by decide +kernel, rfl⟩
theorem e_X11_sides_49 : kk_d cX11_sides 49 (.iconst 0) 1 50 := ⟨by decide +kernel, rfl⟩
theorem e_X11_sides_50 : kk_d cX11_sides 50 (.istore 4) 2 52 := ⟨by decide +kernel, rfl⟩
theorem e_X11_sides_52 : kk_d cX11_sides 52 (.iload 4) 2 54 := ⟨by decide +kernel, rfl⟩
theorem e_X11_sides_54 : kk_d cX11_sides 54 (.aload_n 0) 1 55 := ⟨by decide +kernel, rfl⟩
theorem e_X11_sides_55 : kk_d cX11_sides 55 (.getfield 21) 3 58 := ⟨by decide +kernel, rfl⟩
theorem e_X11_sides_58 : kk_dj cX11_sides 58 (.if_icmp .ge 26) 3 (26) 61 84 := ⟨by decide +kernel, rfl, by decide⟩
theorem e_X11_sides_84 : kk_d cX11_sides 84 (.iload_n 3) 1 85 := ⟨by decide +kernel, rfl⟩
theorem e_X11_sides_85 : kk_d cX11_sides 85 .ireturn 1 86 := ⟨by decide +kernel, rfl⟩
theorem e_X11_sides_61 : kk_d cX11_sides 61 (.aload_n 0) 1 62 := ⟨by decide +kernel, rfl⟩
theorem e_X11_sides_62 : kk_d cX11_sides 62 (.getfield 46) 3 65 := ⟨by decide +kernel, rfl⟩
theorem e_X11_sides_65 : kk_d cX11_sides 65 (.iload 4) 2 67 := ⟨by decide +kernel, rfl⟩
theorem e_X11_sides_67 : kk_d cX11_sides 67 .iaload 1 68 := ⟨by decide +kernel, rfl⟩
theorem e_X11_sides_68 : kk_dj cX11_sides 68 (.ifCond .ne 10) 3 (10) 71 78 := ⟨by decide +kernel, rfl, by decide⟩
theorem e_X11_sides_78 : kk_d cX11_sides 78 (.iinc 4 1) 3 81 := ⟨by decide +kernel, rfl⟩
theorem e_X11_sides_81 : kk_dj cX11_sides 81 (.goto (-29)) 3 (-29) 84 52 := ⟨by decide +kernel, rfl, by decide⟩
theorem e_X11_sides_71 : kk_d cX11_sides 71 (.iload_n 3) 1 72 := ⟨by decide +kernel, rfl⟩
theorem e_X11_sides_72 : kk_d cX11_sides 72 (.iconst 1) 1 73 := ⟨by decide +kernel, rfl⟩
theorem e_X11_sides_73 : kk_d cX11_sides 73 (.iload 4) 2 75 := ⟨by decide +kernel, rfl⟩
theorem e_X11_sides_75 : kk_d cX11_sides 75 .ishl 1 76 := ⟨by decide +kernel, rfl⟩
theorem e_X11_sides_76 : kk_d cX11_sides 76 .ior 1 77 := ⟨by decide +kernel, rfl⟩
theorem e_X11_sides_77 : kk_d cX11_sides 77 (.istore_n 3) 1 78 := ⟨by decide +kernel, rfl⟩
theorem e_X11_sides_44 : kk_d cX11_sides 44 (.bipush (-2)) 2 46 := ⟨by decide +kernel, rfl⟩
theorem e_X11_sides_46 : kk_d cX11_sides 46 .ireturn 1 47 := ⟨by decide +kernel, rfl⟩
theorem e_X11_sides_30 : kk_d cX11_sides 30 (.iload_n 2) 1 31 := ⟨by decide +kernel, rfl⟩
theorem e_X11_sides_31 : kk_dj cX11_sides 31 (.ifCond .eq 7) 3 (7) 34 38 := ⟨by decide +kernel, rfl, by decide⟩
theorem e_X11_sides_39 : kk_d cX11_sides 39 .ireturn 1 40 := ⟨by decide +kernel, rfl⟩
theorem e_X11_sides_38 : kk_d cX11_sides 38 (.iconst 0) 1 39 := ⟨by decide +kernel, rfl⟩
theorem e_X11_sides_34 : kk_d cX11_sides 34 (.iconst 1) 1 35 := ⟨by decide +kernel, rfl⟩
theorem e_X11_sides_35 : kk_dj cX11_sides 35 (.goto 4) 3 (4) 38 39 := ⟨by decide +kernel, rfl, by decide⟩
theorem e_X11_sides_16 : kk_d cX11_sides 16 (.aload_n 0) 1 17 := ⟨by decide +kernel, rfl⟩
theorem e_X11_sides_17 : kk_d cX11_sides 17 (.invokevirtual 188) 3 20 := ⟨by decide +kernel, rfl⟩
theorem e_X11_sides_20 : kk_d cX11_sides 20 .ireturn 1 21 := ⟨by decide +kernel, rfl⟩
theorem e_X11_sides_9 : kk_d cX11_sides 9 (.iconst (-1)) 1 10 := ⟨by decide +kernel, rfl⟩
theorem e_X11_sides_10 : kk_d cX11_sides 10 .ireturn 1 11 := ⟨by decide +kernel, rfl⟩
set_option maxRecDepth 4000 in
theorem s_X11_sides (Z : kk_Z) (v1 : Int32) (σ : kk_St) (Q : Int32 → kk_St → Prop) (h : f_X11_sides v1 σ Q) : kk_M Z sh_M yX11_sides cX11_sides 5 (some .int) (kk_R 3) [.ref (Z.2.1 0), .int v1] σ (kk_Qi Z sh_M Q) := by
  unfold f_X11_sides at h
  refine kk_met (own := RX11) (by decide) rfl (Nat.le_of_ble_eq_true rfl) rfl ?_
  refine kk_iload_n 1 rfl e_X11_sides_0 ?_
  refine kk_iconst ic_0 e_X11_sides_1 ?_
  refine kk_iconst ic_2 e_X11_sides_2 ?_
  refine kk_callSip (As := [.int v1, .int (0 : Int32), .int (2 : Int32)]) (rest := []) e_X11_sides_3 ml_X11_92 rfl (kk_fitR (by decide) (by decide)) (Nat.le_of_ble_eq_true rfl) rfl (s_X11_in Z v1 (0 : Int32) (2 : Int32) σ _ h) (fun r_1 h => ?_)
  refine kk_if_ne e_X11_sides_6 (fun c_20 => ?_) (fun c_20 => ?_)
  · replace h := h.1 c_20
    refine kk_iload_n 1 rfl e_X11_sides_11 ?_
    refine kk_iconst ic_2 e_X11_sides_12 ?_
    refine kk_icmp_ne e_X11_sides_13 (fun c_19 => ?_) (fun c_19 => ?_)
    · replace h := h.1 c_19
      refine kk_aload_n 0 rfl e_X11_sides_21 ?_
      refine kk_callVi (As := []) (rest := []) e_X11_sides_22 ml_X11_191 ⟨_, _, _, _, rfl, rfl⟩ rfl (kk_fitR (by decide) (by decide)) (Nat.le_of_ble_eq_true rfl) rfl (s_X11_laysSides Z σ _ h) (fun r_2 σ_3 h => ?_)
      refine kk_istore_n (lv' := [(2, .int r_2), (0, .ref (Z.2.1 0)), (1, .int v1)]) e_X11_sides_25 rfl (by decide) rfl ?_
      refine kk_iload_n 2 rfl e_X11_sides_26 ?_
      refine kk_if_ne e_X11_sides_27 (fun c_16 => ?_) (fun c_16 => ?_)
      · replace h := h.1 c_16
        refine kk_iload_n 0 rfl e_X11_sides_40 ?_
        refine kk_if_ne e_X11_sides_41 (fun c_12 => ?_) (fun c_12 => ?_)
        · replace h := h.1 c_12
          refine kk_iconst ic_0 e_X11_sides_47 ?_
          refine kk_istore_n (lv' := [(3, .int (0 : Int32)), (2, .int r_2), (0, .ref (Z.2.1 0)), (1, .int v1)]) e_X11_sides_48 rfl (by decide) rfl ?_
          refine kk_iconst ic_0 e_X11_sides_49 ?_
          refine kk_istore (lv' := [(4, .int (0 : Int32)), (3, .int (0 : Int32)), (2, .int r_2), (0, .ref (Z.2.1 0)), (1, .int v1)]) e_X11_sides_50 (by decide) rfl ?_
          refine kk_sub [3, 1, 0] rfl ?_
          refine kk_lpW2 (P := fun (v3_4 : Int32) (v4_5 : Int32) => KK Z sh_M RX11 cX11_sides 5 (some .int) (kk_R 3) (kk_Qi Z sh_M Q) 52 [(0, .ref (Z.2.1 0)), (3, .int v3_4), (4, .int v4_5)] [] σ_3) ?_ h
          intro rec_6 hrec_6 v3_4 v4_5 h
          refine kk_iload 2 rfl e_X11_sides_52 ?_
          refine kk_aload_n 0 rfl e_X11_sides_54 ?_
          refine kk_geti e_X11_sides_55 fl_X11_21 rfl rfl ?_
          refine kk_icmp_ge e_X11_sides_58 (fun c_11 => ?_) (fun c_11 => ?_)
          · replace h := h.1 c_11
            refine kk_iload_n 1 rfl e_X11_sides_84 ?_
            exact kk_iret e_X11_sides_85 h
          · replace h := h.2 c_11
            refine kk_aload_n 0 rfl e_X11_sides_61 ?_
            refine kk_getr e_X11_sides_62 fl_X11_46 rfl rfl ?_
            refine kk_iload 2 rfl e_X11_sides_65 ?_
            refine kk_iald e_X11_sides_67 rfl h.1 ?_
            replace h := h.2
            refine kk_jW1 (P := fun (v3_7 : Int32) => KK Z sh_M RX11 cX11_sides 5 (some .int) (kk_R 3) (kk_Qi Z sh_M Q) 78 [(0, .ref (Z.2.1 0)), (3, .int v3_7), (4, .int v4_5)] [] σ_3) h ?_ ?_
            · intro v3_7 h
              refine kk_iinc (lv' := [(4, .int (v4_5 + (1 : Int32))), (0, .ref (Z.2.1 0)), (3, .int v3_7)]) e_X11_sides_78 (j := 2) rfl (ii_1 v4_5) (by decide) rfl ?_
              refine kk_goto e_X11_sides_81 ?_
              exact kk_sub [1, 2, 0] rfl (hrec_6 v3_7 (v4_5 + (1 : Int32)) h)
            · intro J_8 hJ_8 h
              refine kk_if_ne e_X11_sides_68 (fun c_10 => ?_) (fun c_10 => ?_)
              · replace h := h.1 c_10
                exact kk_sub [0, 1, 2] rfl (hJ_8 v3_4 h)
              · replace h := h.2 c_10
                refine kk_iload_n 1 rfl e_X11_sides_71 ?_
                refine kk_iconst ic_1 e_X11_sides_72 ?_
                refine kk_iload 2 rfl e_X11_sides_73 ?_
                refine kk_ishl e_X11_sides_75 ?_
                refine kk_ior e_X11_sides_76 ?_
                refine kk_topi (fun v3_9 ev3_9 => ?_)
                replace h := h v3_9 ev3_9
                refine kk_istore_n (lv' := [(3, .int v3_9), (0, .ref (Z.2.1 0)), (4, .int v4_5)]) e_X11_sides_77 rfl (by decide) rfl ?_
                exact kk_sub [1, 0, 2] rfl (hJ_8 v3_9 h)
        · replace h := h.2 c_12
          refine kk_bipush bp_m2 e_X11_sides_44 ?_
          exact kk_iret e_X11_sides_46 h
      · replace h := h.2 c_16
        refine kk_iload_n 0 rfl e_X11_sides_30 ?_
        refine kk_jW1 (P := fun (t_13 : Int32) => KK Z sh_M RX11 cX11_sides 5 (some .int) (kk_R 3) (kk_Qi Z sh_M Q) 39 [] [.int t_13] σ_3) h ?_ ?_
        · intro t_13 h
          exact kk_iret e_X11_sides_39 h
        · intro J_14 hJ_14 h
          refine kk_if_eq e_X11_sides_31 (fun c_15 => ?_) (fun c_15 => ?_)
          · replace h := h.1 c_15
            refine kk_iconst ic_0 e_X11_sides_38 ?_
            exact kk_sub [] rfl (hJ_14 (0 : Int32) h)
          · replace h := h.2 c_15
            refine kk_iconst ic_1 e_X11_sides_34 ?_
            refine kk_goto e_X11_sides_35 ?_
            exact kk_sub [] rfl (hJ_14 (1 : Int32) h)
    · replace h := h.2 c_19
      refine kk_aload_n 0 rfl e_X11_sides_16 ?_
      refine kk_callVi (As := []) (rest := []) e_X11_sides_17 ml_X11_188 ⟨_, _, _, _, rfl, rfl⟩ rfl (kk_fitR (by decide) (by decide)) (Nat.le_of_ble_eq_true rfl) rfl (s_X11_oddRound Z σ _ h) (fun r_17 σ_18 h => ?_)
      exact kk_iret e_X11_sides_20 h
  · replace h := h.2 c_20
    refine kk_iconst ic_m1 e_X11_sides_9 ?_
    exact kk_iret e_X11_sides_10 h
theorem e_X11_swap_0 : kk_d cX11_swap 0 (.aload_n 0) 1 1 := ⟨by decide +kernel, rfl⟩
theorem e_X11_swap_1 : kk_d cX11_swap 1 (.iload_n 1) 1 2 := ⟨by decide +kernel, rfl⟩
theorem e_X11_swap_2 : kk_d cX11_swap 2 (.iload_n 2) 1 3 := ⟨by decide +kernel, rfl⟩
theorem e_X11_swap_3 : kk_d cX11_swap 3 (.invokevirtual 134) 3 6 := ⟨by decide +kernel, rfl⟩
theorem e_X11_swap_6 : kk_dj cX11_swap 6 (.ifCond .ne 5) 3 (5) 9 11 := ⟨by decide +kernel, rfl, by decide⟩
theorem e_X11_swap_11 : kk_d cX11_swap 11 (.aload_n 0) 1 12 := ⟨by decide +kernel, rfl⟩
theorem e_X11_swap_12 : kk_d cX11_swap 12 (.iload_n 1) 1 13 := ⟨by decide +kernel, rfl⟩
theorem e_X11_swap_13 : kk_d cX11_swap 13 (.iload_n 2) 1 14 := ⟨by decide +kernel, rfl⟩
theorem e_X11_swap_14 : kk_d cX11_swap 14 (.invokevirtual 169) 3 17 := ⟨by decide +kernel, rfl⟩
theorem e_X11_swap_17 : kk_d cX11_swap 17 .ireturn 1 18 := ⟨by decide +kernel, rfl⟩
theorem e_X11_swap_9 : kk_d cX11_swap 9 (.iconst (-1)) 1 10 := ⟨by decide +kernel, rfl⟩
theorem e_X11_swap_10 : kk_d cX11_swap 10 .ireturn 1 11 := ⟨by decide +kernel, rfl⟩
set_option maxRecDepth 4000 in
theorem s_X11_swap (Z : kk_Z) (v1 : Int32) (v2 : Int32) (σ : kk_St) (Q : Int32 → kk_St → Prop) (h : f_X11_swap v1 v2 σ Q) : kk_M Z sh_M yX11_swap cX11_swap 3 (some .int) (kk_R 8) [.ref (Z.2.1 0), .int v1, .int v2] σ (kk_Qi Z sh_M Q) := by
  unfold f_X11_swap at h
  refine kk_met (own := RX11) (by decide) rfl (Nat.le_of_ble_eq_true rfl) rfl ?_
  refine kk_aload_n 0 rfl e_X11_swap_0 ?_
  refine kk_iload_n 1 rfl e_X11_swap_1 ?_
  refine kk_iload_n 2 rfl e_X11_swap_2 ?_
  refine kk_callVip (As := [.int v1, .int v2]) (rest := []) e_X11_swap_3 ml_X11_134 ⟨_, _, _, _, rfl, rfl⟩ rfl (kk_fitR (by decide) (by decide)) (Nat.le_of_ble_eq_true rfl) rfl (s_X11_areColours Z v1 v2 σ _ h) (fun r_1 h => ?_)
  refine kk_if_ne e_X11_swap_6 (fun c_4 => ?_) (fun c_4 => ?_)
  · replace h := h.1 c_4
    refine kk_aload_n 0 rfl e_X11_swap_11 ?_
    refine kk_iload_n 1 rfl e_X11_swap_12 ?_
    refine kk_iload_n 2 rfl e_X11_swap_13 ?_
    refine kk_callVi (As := [.int v1, .int v2]) (rest := []) e_X11_swap_14 ml_X11_169 ⟨_, _, _, _, rfl, rfl⟩ rfl (kk_fitR (by decide) (by decide)) (Nat.le_of_ble_eq_true rfl) rfl (s_X11_swaps Z v1 v2 σ _ h) (fun r_2 σ_3 h => ?_)
    exact kk_iret e_X11_swap_17 h
  · replace h := h.2 c_4
    refine kk_iconst ic_m1 e_X11_swap_9 ?_
    exact kk_iret e_X11_swap_10 h
theorem e_X11_take_0 : kk_d cX11_take 0 (.iload_n 1) 1 1 := ⟨by decide +kernel, rfl⟩
theorem e_X11_take_1 : kk_d cX11_take 1 (.iconst 0) 1 2 := ⟨by decide +kernel, rfl⟩
theorem e_X11_take_2 : kk_d cX11_take 2 (.aload_n 0) 1 3 := ⟨by decide +kernel, rfl⟩
theorem e_X11_take_3 : kk_d cX11_take 3 (.invokevirtual 128) 3 6 := ⟨by decide +kernel, rfl⟩
theorem e_X11_take_6 : kk_d cX11_take 6 (.iconst 1) 1 7 := ⟨by decide +kernel, rfl⟩
theorem e_X11_take_7 : kk_d cX11_take 7 .iadd 1 8 := ⟨by decide +kernel, rfl⟩
theorem e_X11_take_8 : kk_d cX11_take 8 (.invokestatic 92) 3 11 := ⟨by decide +kernel, rfl⟩
theorem e_X11_take_11 : kk_dj cX11_take 11 (.ifCond .eq 15) 3 (15) 14 26 := ⟨by decide +kernel, rfl, by decide⟩
theorem e_X11_take_26 : kk_d cX11_take 26 (.iconst 0) 1 27 := ⟨by decide +kernel, rfl⟩
theorem e_X11_take_27 : kk_d cX11_take 27 .ireturn 1 28 := ⟨by decide +kernel, rfl⟩
theorem e_X11_take_14 : kk_d cX11_take 14 (.aload_n 0) 1 15 := ⟨by decide +kernel, rfl⟩
theorem e_X11_take_15 : kk_d cX11_take 15 (.aload_n 0) 1 16 := ⟨by decide +kernel, rfl⟩
theorem e_X11_take_16 : kk_d cX11_take 16 (.invokevirtual 120) 3 19 := ⟨by decide +kernel, rfl⟩
theorem e_X11_take_19 : kk_d cX11_take 19 (.iload_n 1) 1 20 := ⟨by decide +kernel, rfl⟩
theorem e_X11_take_20 : kk_d cX11_take 20 (.invokevirtual 247) 3 23 := ⟨by decide +kernel, rfl⟩
theorem e_X11_take_23 : kk_dj cX11_take 23 (.ifCond .ne 5) 3 (5) 26 28 := ⟨by decide +kernel, rfl, by decide⟩
theorem e_X11_take_28 : kk_d cX11_take 28 (.iconst 0) 1 29 := ⟨by decide +kernel, rfl⟩
theorem e_X11_take_29 : kk_d cX11_take 29 (.istore_n 2) 1 30 := ⟨by decide +kernel, rfl⟩
theorem e_X11_take_30 : kk_d cX11_take 30 (.iload_n 2) 1 31 := ⟨by decide +kernel, rfl⟩
theorem e_X11_take_31 : kk_d cX11_take 31 (.aload_n 0) 1 32 := ⟨by decide +kernel, rfl⟩
theorem e_X11_take_32 : kk_d cX11_take 32 (.getfield 96) 3 35 := ⟨by decide +kernel, rfl⟩
theorem e_X11_take_35 : kk_dj cX11_take 35 (.if_icmp .ge 21) 3 (21) 38 56 := ⟨by decide +kernel, rfl, by decide⟩
theorem e_X11_take_56 : kk_d cX11_take 56 (.iconst 1) 1 57 := ⟨by decide +kernel, rfl⟩
theorem e_X11_take_57 : kk_d cX11_take 57 .ireturn 1 58 := ⟨by decide +kernel, rfl⟩
theorem e_X11_take_38 : kk_d cX11_take 38 (.aload_n 0) 1 39 := ⟨by decide +kernel, rfl⟩
theorem e_X11_take_39 : kk_d cX11_take 39 (.getfield 31) 3 42 := ⟨by decide +kernel, rfl⟩
theorem e_X11_take_42 : kk_d cX11_take 42 (.iload_n 2) 1 43 := ⟨by decide +kernel, rfl⟩
theorem e_X11_take_43 : kk_d cX11_take 43 (.aload_n 0) 1 44 := ⟨by decide +kernel, rfl⟩
theorem e_X11_take_44 : kk_d cX11_take 44 (.getfield 55) 3 47 := ⟨by decide +kernel, rfl⟩
theorem e_X11_take_47 : kk_d cX11_take 47 (.iload_n 2) 1 48 := ⟨by decide +kernel, rfl⟩
theorem e_X11_take_48 : kk_d cX11_take 48 .iaload 1 49 := ⟨by decide +kernel, rfl⟩
theorem e_X11_take_49 : kk_d cX11_take 49 .iastore 1 50 := ⟨by decide +kernel, rfl⟩
theorem e_X11_take_50 : kk_d cX11_take 50 (.iinc 2 1) 3 53 := ⟨by decide +kernel, rfl⟩
theorem e_X11_take_53 : kk_dj cX11_take 53 (.goto (-23)) 3 (-23) 56 30 := ⟨by decide +kernel, rfl, by decide⟩
set_option maxRecDepth 4000 in
theorem s_X11_take (Z : kk_Z) (v1 : Int32) (σ : kk_St) (Q : Int32 → kk_St → Prop) (h : f_X11_take v1 σ Q) : kk_M Z sh_M yX11_take cX11_take 3 (some .boolean) (kk_R 8) [.ref (Z.2.1 0), .int v1] σ (kk_Qi Z sh_M Q) := by
  unfold f_X11_take at h
  refine kk_met (own := RX11) (by decide) rfl (Nat.le_of_ble_eq_true rfl) rfl ?_
  refine kk_iload_n 1 rfl e_X11_take_0 ?_
  refine kk_iconst ic_0 e_X11_take_1 ?_
  refine kk_aload_n 0 rfl e_X11_take_2 ?_
  refine kk_callVip (As := []) (rest := [.int (0 : Int32), .int v1]) e_X11_take_3 ml_X11_128 ⟨_, _, _, _, rfl, rfl⟩ rfl (kk_fitR (by decide) (by decide)) (Nat.le_of_ble_eq_true rfl) rfl (s_X11_degree Z σ _ h) (fun r_1 h => ?_)
  refine kk_iconst ic_1 e_X11_take_6 ?_
  refine kk_iadd e_X11_take_7 ?_
  refine kk_callSip (As := [.int v1, .int (0 : Int32), .int (r_1 + (1 : Int32))]) (rest := []) e_X11_take_8 ml_X11_92 rfl (kk_fitR (by decide) (by decide)) (Nat.le_of_ble_eq_true rfl) rfl (s_X11_in Z v1 (0 : Int32) (r_1 + (1 : Int32)) σ _ h) (fun r_2 h => ?_)
  refine kk_jW1 (P := fun (σ_3 : kk_St) => KK Z sh_M RX11 cX11_take 3 (some .boolean) (kk_R 8) (kk_Qi Z sh_M Q) 26 [] [] σ_3) h ?_ ?_
  · intro σ_3 h
    refine kk_iconst ic_0 e_X11_take_26 ?_
    exact kk_zret e_X11_take_27 (Or.inl rfl) h
  · intro J_4 hJ_4 h
    refine kk_if_eq e_X11_take_11 (fun c_14 => ?_) (fun c_14 => ?_)
    · replace h := h.1 c_14
      exact kk_sub [] rfl (hJ_4 σ h)
    · replace h := h.2 c_14
      refine kk_aload_n 0 rfl e_X11_take_14 ?_
      refine kk_aload_n 0 rfl e_X11_take_15 ?_
      refine kk_callVip (As := []) (rest := [.ref (Z.2.1 0)]) e_X11_take_16 ml_X11_120 ⟨_, _, _, _, rfl, rfl⟩ rfl (kk_fitR (by decide) (by decide)) (Nat.le_of_ble_eq_true rfl) rfl (s_X11_allLines Z σ _ h) (fun r_5 h => ?_)
      refine kk_iload_n 1 rfl e_X11_take_19 ?_
      refine kk_callVi (As := [.int r_5, .int v1]) (rest := []) e_X11_take_20 ml_X11_247 ⟨_, _, _, _, rfl, rfl⟩ rfl (kk_fitR (by decide) (by decide)) (Nat.le_of_ble_eq_true rfl) rfl (s_X11_laysFirst Z r_5 v1 σ _ h) (fun r_6 σ_7 h => ?_)
      refine kk_if_ne e_X11_take_23 (fun c_13 => ?_) (fun c_13 => ?_)
      · replace h := h.1 c_13
        refine kk_iconst ic_0 e_X11_take_28 ?_
        refine kk_istore_n (lv' := [(2, .int (0 : Int32)), (0, .ref (Z.2.1 0)), (1, .int v1)]) e_X11_take_29 rfl (by decide) rfl ?_
        refine kk_sub [1, 0] rfl ?_
        refine kk_lpW2 (P := fun (v2_8 : Int32) (σ_9 : kk_St) => KK Z sh_M RX11 cX11_take 3 (some .boolean) (kk_R 8) (kk_Qi Z sh_M Q) 30 [(0, .ref (Z.2.1 0)), (2, .int v2_8)] [] σ_9) ?_ h
        intro rec_10 hrec_10 v2_8 σ_9 h
        refine kk_iload_n 1 rfl e_X11_take_30 ?_
        refine kk_aload_n 0 rfl e_X11_take_31 ?_
        refine kk_geti e_X11_take_32 fl_X11_96 rfl rfl ?_
        refine kk_icmp_ge e_X11_take_35 (fun c_12 => ?_) (fun c_12 => ?_)
        · replace h := h.1 c_12
          refine kk_iconst ic_1 e_X11_take_56 ?_
          exact kk_zret e_X11_take_57 (Or.inr rfl) h
        · replace h := h.2 c_12
          refine kk_aload_n 0 rfl e_X11_take_38 ?_
          refine kk_getr e_X11_take_39 fl_X11_31 rfl rfl ?_
          refine kk_iload_n 1 rfl e_X11_take_42 ?_
          refine kk_aload_n 0 rfl e_X11_take_43 ?_
          refine kk_getr e_X11_take_44 fl_X11_55 rfl rfl ?_
          refine kk_iload_n 1 rfl e_X11_take_47 ?_
          refine kk_iald e_X11_take_48 rfl h.1 ?_
          replace h := h.2
          refine kk_iast e_X11_take_49 rfl h.1 ?_
          replace h := h.2
          refine kk_tops (fun σ_11 eσ_11 => ?_)
          replace h := h σ_11 eσ_11
          refine kk_iinc (lv' := [(2, .int (v2_8 + (1 : Int32))), (0, .ref (Z.2.1 0))]) e_X11_take_50 (j := 1) rfl (ii_1 v2_8) (by decide) rfl ?_
          refine kk_goto e_X11_take_53 ?_
          exact kk_sub [1, 0] rfl (hrec_10 (v2_8 + (1 : Int32)) σ_11 h)
      · replace h := h.2 c_13
        exact kk_sub [] rfl (hJ_4 σ_7 h)
