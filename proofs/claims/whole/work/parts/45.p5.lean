/-! the pair line -/
theorem q_line : pr_line Rel := by
  rintro σ1 σ2 ⟨n, m, a, b, c, kp, ls, kf, gf, W, P, M, N, K, Z⟩ v1 v2
  have hm := W.2.2.1
  have hn := W.2.1
  have same : Rel σ1 σ2 := ⟨n, m, a, b, c, kp, ls, kf, gf, W, P, M, N, K, Z⟩
  unfold f_X10_line
  refine sc_isPost N hn ?_
  dsimp only [kk_j0]
  refine bI_zn (fun h1 => ?_) (fun h1 => ?_)
  · unfold f_X11_line
    refine sm_isPost M hn ?_
    rw [h1]
    exact br_t rfl ⟨rfl, same⟩
  · refine sc_isPost N hn ?_
    refine bI_zn (fun h2 => ?_) (fun h2 => ?_)
    · unfold f_X11_line
      refine sm_isPost M hn ?_
      rw [h1]
      refine br_f (by decide) ?_
      refine sm_isPost M hn ?_
      rw [h2]
      exact br_t rfl ⟨rfl, same⟩
    · obtain ⟨p, hp, rfl⟩ := isIx_ex h1
      obtain ⟨q, hq, rfl⟩ := isIx_ex h2
      by_cases hpq : p = q
      · refine jn_f (by rw [hpq]) ?_
        unfold f_X11_line
        refine sm_isPost M hn ?_
        rw [h1]
        refine br_f (by decide) ?_
        refine sm_isPost M hn ?_
        rw [h2]
        exact br_f (by decide) (br_t (by rw [hpq]) ⟨rfl, same⟩)
      · have hne : ¬ nI p = nI q := by rw [nI_ne (by omega) (by omega)]; exact hpq
        refine jn_t hne ?_
        have mod : ∀ {Q : Int32 → kk_St → Prop}, ((m = 20 ∨ anyb (fun k => inc a b k p && inc a b k q) m = true) → Q (-1) σ2) → (m < 20 → anyb (fun k => inc a b k p && inc a b k q) m = false → ∀ τ, frF [1, 2, 3, 4, 5] [2] σ2 τ → τ.1 0 2 = nI (m + 1) → τ.1 1 = upd (σ2.1 1) m (nI (if q < p then q else p)) → τ.1 2 = upd (σ2.1 2) m (nI (if q > p then q else p)) → τ.1 3 = upd (σ2.1 3) m (-1) → τ.1 4 = upd (σ2.1 4) m 511 → τ.1 5 = upd (σ2.1 5) m (-1) → Q (nI m) τ) → f_X11_line (nI p) (nI q) σ2 Q := by
          intro Q g0 g1
          unfold f_X11_line
          refine sm_isPost M hn ?_
          rw [h1]
          refine br_f (by decide) ?_
          refine sm_isPost M hn ?_
          rw [h2]
          refine br_f (by decide) (br_f hne ?_)
          refine sm_lineOf M W (by omega) (by omega) hpq ?_
          have hf := fI_ne (P := fun k => inc a b k p && inc a b k q) (m := m) (by omega)
          cases ha : anyb (fun k => inc a b k p && inc a b k q) m with
          | true =>
            have hz : ¬ fI (fun k => inc a b k p && inc a b k q) m = -1 := fun z => by rw [hf.mp z] at ha; cases ha
            exact jn_t hz (g0 (Or.inr ha))
          | false =>
            refine jn_f (hf.mpr ha) ?_
            rw [M.2.1]
            by_cases h20 : m = 20
            · exact jn_f (by rw [h20]; rfl) (g0 (Or.inl h20))
            · have hlt : m < 20 := by omega
              refine jn_t (fun z => h20 ((nI_ne (i := m) (j := 20) (by omega) (by omega)).mp z)) ?_
              dsimp only [kk_j1]
              have main : ∀ x y : Nat, x = (if q < p then q else p) → y = (if q > p then q else p) → ∀ t5 : Int32, t5 = nI x → vp_in (nI m) 20 ∧ ∀ σ_7 : kk_St, σ_7 = kk_wr σ2 1 (nI m).toNatClampNeg t5 → ((nI q ≤ nI p → vp_in (σ_7.1 0 2) 20 ∧ ∀ σ_10 : kk_St, σ_10 = kk_wr σ_7 2 (σ_7.1 0 2).toNatClampNeg (nI p) → vp_in (σ_10.1 0 2) 20 ∧ ∀ σ_11 : kk_St, σ_11 = kk_wr σ_10 3 (σ_10.1 0 2).toNatClampNeg (-1) → vp_in (σ_11.1 0 2) 20 ∧ ∀ σ_12 : kk_St, σ_12 = kk_wr σ_11 4 (σ_11.1 0 2).toNatClampNeg 511 → vp_in (σ_12.1 0 2) 20 ∧ ∀ σ_13 : kk_St, σ_13 = kk_wr σ_12 5 (σ_12.1 0 2).toNatClampNeg (-1) → ∀ σ_14 : kk_St, σ_14 = kk_wr σ_13 0 2 (σ_13.1 0 2 + 1) → Q (σ_14.1 0 2 - 1) σ_14) ∧ (¬ nI q ≤ nI p → vp_in (σ_7.1 0 2) 20 ∧ ∀ σ_10 : kk_St, σ_10 = kk_wr σ_7 2 (σ_7.1 0 2).toNatClampNeg (nI q) → vp_in (σ_10.1 0 2) 20 ∧ ∀ σ_11 : kk_St, σ_11 = kk_wr σ_10 3 (σ_10.1 0 2).toNatClampNeg (-1) → vp_in (σ_11.1 0 2) 20 ∧ ∀ σ_12 : kk_St, σ_12 = kk_wr σ_11 4 (σ_11.1 0 2).toNatClampNeg 511 → vp_in (σ_12.1 0 2) 20 ∧ ∀ σ_13 : kk_St, σ_13 = kk_wr σ_12 5 (σ_12.1 0 2).toNatClampNeg (-1) → ∀ σ_14 : kk_St, σ_14 = kk_wr σ_13 0 2 (σ_13.1 0 2 + 1) → Q (σ_14.1 0 2 - 1) σ_14)) := by
                intro x y hx hy t5 ht5
                refine ⟨vp_lt hlt (by omega), ?_⟩
                intro s7 e7
                have tail : ∀ t8 : Int32, t8 = nI y → vp_in (s7.1 0 2) 20 ∧ ∀ σ_10 : kk_St, σ_10 = kk_wr s7 2 (s7.1 0 2).toNatClampNeg t8 → vp_in (σ_10.1 0 2) 20 ∧ ∀ σ_11 : kk_St, σ_11 = kk_wr σ_10 3 (σ_10.1 0 2).toNatClampNeg (-1) → vp_in (σ_11.1 0 2) 20 ∧ ∀ σ_12 : kk_St, σ_12 = kk_wr σ_11 4 (σ_11.1 0 2).toNatClampNeg 511 → vp_in (σ_12.1 0 2) 20 ∧ ∀ σ_13 : kk_St, σ_13 = kk_wr σ_12 5 (σ_12.1 0 2).toNatClampNeg (-1) → ∀ σ_14 : kk_St, σ_14 = kk_wr σ_13 0 2 (σ_13.1 0 2 + 1) → Q (σ_14.1 0 2 - 1) σ_14 := by
                  intro t8 ht8
                  have m7 : s7.1 0 2 = nI m := by rw [e7, wr_ne _ _ _ (by decide)]; exact M.2.1
                  rw [m7]
                  refine ⟨vp_lt hlt (by omega), ?_⟩
                  intro s10 e10
                  have m10 : s10.1 0 2 = nI m := by rw [e10, wr_ne _ _ _ (by decide)]; exact m7
                  rw [m10]
                  refine ⟨vp_lt hlt (by omega), ?_⟩
                  intro s11 e11
                  have m11 : s11.1 0 2 = nI m := by rw [e11, wr_ne _ _ _ (by decide)]; exact m10
                  rw [m11]
                  refine ⟨vp_lt hlt (by omega), ?_⟩
                  intro s12 e12
                  have m12 : s12.1 0 2 = nI m := by rw [e12, wr_ne _ _ _ (by decide)]; exact m11
                  rw [m12]
                  refine ⟨vp_lt hlt (by omega), ?_⟩
                  intro s13 e13
                  have m13 : s13.1 0 2 = nI m := by rw [e13, wr_ne _ _ _ (by decide)]; exact m12
                  rw [m13]
                  intro s14 e14
                  have m14 : s14.1 0 2 = nI (m + 1) := by rw [e14, wr_at, upd_at, nI_1]
                  rw [m14]
                  have hsub : nI (m + 1) - 1 = nI m := nI_pred m
                  rw [hsub]
                  rw [nI_clamp (by omega)] at e7 e10 e11 e12 e13
                  refine g1 hlt ha s14 ?_ m14 ?_ ?_ ?_ ?_ ?_
                  · rw [e14, e13, e12, e11, e10, e7]
                    exact frF_tr (frF_c (by simp) (by decide)) (frF_tr (frF_c (by simp) (by decide)) (frF_tr (frF_c (by simp) (by decide)) (frF_tr (frF_c (by simp) (by decide)) (frF_tr (frF_c (by simp) (by decide)) (frF_f (by simp))))))
                  · rw [e14, wr_ne _ _ _ (by decide), e13, wr_ne _ _ _ (by decide), e12, wr_ne _ _ _ (by decide), e11, wr_ne _ _ _ (by decide), e10, wr_ne _ _ _ (by decide), e7, wr_at, ht5, hx]
                  · rw [e14, wr_ne _ _ _ (by decide), e13, wr_ne _ _ _ (by decide), e12, wr_ne _ _ _ (by decide), e11, wr_ne _ _ _ (by decide), e10, wr_at, e7, wr_ne _ _ _ (by decide), ht8, hy]
                  · rw [e14, wr_ne _ _ _ (by decide), e13, wr_ne _ _ _ (by decide), e12, wr_ne _ _ _ (by decide), e11, wr_at, e10, wr_ne _ _ _ (by decide), e7, wr_ne _ _ _ (by decide)]
                  · rw [e14, wr_ne _ _ _ (by decide), e13, wr_ne _ _ _ (by decide), e12, wr_at, e11, wr_ne _ _ _ (by decide), e10, wr_ne _ _ _ (by decide), e7, wr_ne _ _ _ (by decide)]
                  · rw [e14, wr_ne _ _ _ (by decide), e13, wr_at, e12, wr_ne _ _ _ (by decide), e11, wr_ne _ _ _ (by decide), e10, wr_ne _ _ _ (by decide), e7, wr_ne _ _ _ (by decide)]
                refine ⟨fun z => tail _ ?_, fun z => tail _ ?_⟩
                · rw [nI_leI (by omega) (by omega)] at z
                  rw [hy, if_neg (by omega)]
                · rw [nI_leI (by omega) (by omega)] at z
                  rw [hy, if_pos (by omega)]
              refine ⟨fun z => main _ _ rfl rfl _ ?_, fun z => main _ _ rfl rfl _ ?_⟩
              · rw [nI_leI (by omega) (by omega)] at z
                rw [if_pos (by omega)]
              · rw [nI_leI (by omega) (by omega)] at z
                rw [if_neg (by omega)]
        rw [N.2.1]
        by_cases h20 : m = 20
        · exact br_t (by rw [h20]; exact nI_le (a := 20) (Nat.le_refl _) (by omega)) (mod (fun _ => ⟨rfl, same⟩) (fun z => by omega))
        · refine br_f (nI_ge (b := 20) (show m < 20 by omega) (by omega)) ?_
          refine sc_lineBetween N hm (by omega) (by omega) ?_
          have hf := fI_ne (P := fun k => inc a b k p && inc a b k q) (m := m) (by omega)
          cases ha : anyb (fun k => inc a b k p && inc a b k q) m with
          | true =>
            have hz : ¬ fI (fun k => inc a b k p && inc a b k q) m = -1 := fun z => by rw [hf.mp z] at ha; cases ha
            exact br_f hz (mod (fun _ => ⟨rfl, same⟩) (fun _ z => by rw [ha] at z; cases z))
          | false =>
            refine br_t (hf.mpr ha) ?_
            refine sc_add N W hp hq hpq (by omega) (fun t6 N6 F6 => ⟨vp_lt (by omega) (by omega), ?_⟩)
            intro t7 e7
            rw [nI_clamp (by omega)] at e7
            unfold f_X7_forget f_X7_forgetAnswer
            intro t8 e8 t9 e9 t10 e10
            have F10 : frL [1, 11, 12, 13, 14, 15, 32, 7] σ1 t10 := by
              rw [e10, e9, e8, e7]
              exact frL_tr (frL_mono F6 (by intro z hz; simp at hz ⊢; omega)) (frL_tr (frL_wr (by simp)) (frL_tr (frL_wr (by simp)) (frL_tr (frL_wr (by simp)) (frL_wr (by simp)))))
            have N10 : RN n (m + 1) (snoc a m (if q < p then q else p)) (snoc b m (if q > p then q else p)) t10 := by
              refine RN_fr N6 (L := [32, 7]) ?_ (by simp)
              rw [e10, e9, e8, e7]
              exact frL_tr (frL_wr (by simp)) (frL_tr (frL_wr (by simp)) (frL_tr (frL_wr (by simp)) (frL_wr (by simp))))
            refine mod (fun hz => ?_) (fun _ _ τ G g2 g3 g4 g5 g6 g7 => ⟨rfl, ?_⟩)
            · rcases hz with hz | hz
              · omega
              · rw [ha] at hz; cases hz
            · obtain ⟨⟨z1, z1', z1''⟩, z2, z3, z4⟩ := Z
              have hxy : (if q < p then q else p) < (if q > p then q else p) := by
                by_cases z : q < p
                · rw [if_pos z, if_neg (by omega)]; exact z
                · rw [if_neg z, if_pos (by omega)]; omega
              have hyn : (if q > p then q else p) < n := by split <;> omega
              have hno : ∀ k, k < m → (inc a b k (if q < p then q else p) && inc a b k (if q > p then q else p)) = false := fun k hk => by
                have := anyb_no.mp ha k hk
                by_cases z : q < p
                · rw [if_pos z, if_neg (by omega), Bool.and_comm]; exact this
                · rw [if_neg z, if_pos (by omega)]; exact this
              generalize (if q < p then q else p) = x at *
              generalize (if q > p then q else p) = y at *
              refine ⟨n, m + 1, snoc a m x, snoc b m y, upd c m (-1), upd kp m (-1), upd ls m 511, kf, gf, snoc_Wf W (by omega) hxy hyn hno, snoc_Pr P (fun k hk => upd_ne _ _ (by omega)) (upd_at _ _ _), ⟨?_, g2, fun k hk => ?_, fun k hk => ?_, fun k hk => ?_⟩, N10, ⟨fun k hk => ?_, fun r hr => ?_⟩, ⟨?_, ?_, fun hz => ⟨?_, fun k hk => ⟨?_, ?_⟩, fun k hk hk2 => ?_⟩⟩, ?_, fun k hk => ?_, Or.inl ?_, Or.inl ?_, Or.inl ?_⟩
              · rw [G.2.1 1 (by simp)]; exact M.1
              · rw [g3, upd_if]
                by_cases hkm : k = m
                · rw [if_pos hkm, hkm, snoc_at]
                · rw [if_neg hkm, snoc_lt (by omega)]; exact M.2.2.1 k (by omega)
              · rw [g4, upd_if]
                by_cases hkm : k = m
                · rw [if_pos hkm, hkm, snoc_at]
                · rw [if_neg hkm, snoc_lt (by omega)]; exact M.2.2.2.1 k (by omega)
              · rw [g5, upd_if, upd_if]
                by_cases hkm : k = m
                · rw [if_pos hkm, if_pos hkm]
                · rw [if_neg hkm, if_neg hkm]; exact M.2.2.2.2 k (by omega)
              · rw [F10.1 16 (by simp), K.1 k hk, upd_if]
                by_cases hkm : k = m
                · rw [if_neg (by omega), if_pos (by omega), if_pos hkm]
                · by_cases hlt : k < m
                  · rw [if_pos hlt, if_pos (by omega), if_neg hkm]
                  · rw [if_neg hlt, if_neg (by omega)]
              · rw [F10.1 17 (by simp), K.2 r hr]
                have hs := mk_snoc (P := fun k => decide (c k = nI r)) (P' := fun k => decide (upd c m (-1) k = nI r)) (m := m) (by omega) (fun j hj => by rw [upd_ne _ _ (by omega)])
                rw [if_neg (by rw [upd_at]; simp; exact fun z => nI_ne_m1 (by omega) z.symm)] at hs
                exact hs
              · rw [F10.1 0 (by simp)]; exact z1
              · rw [G.2.1 8 (by simp)]; exact z1'
              · exact snoc_Pr (z1'' hz).1 (fun k hk => upd_ne _ _ (by omega)) (upd_at _ _ _)
              · rw [F10.1 31 (by simp), upd_if]
                by_cases hkm : k = m
                · rw [if_pos hkm, hkm]; exact (z1'' hz).2.2 m (Nat.le_refl _) (by omega)
                · rw [if_neg hkm]; exact ((z1'' hz).2.1 k (by omega)).1
              · rw [g7, upd_if, upd_if]
                by_cases hkm : k = m
                · rw [if_pos hkm, if_pos hkm]
                · rw [if_neg hkm, if_neg hkm]; exact ((z1'' hz).2.1 k (by omega)).2
              · rw [F10.1 31 (by simp)]; exact (z1'' hz).2.2 k (by omega) hk2
              · rw [F10.1 4 (by simp), F10.1 19 (by simp), G.2.1 12 (by simp), G.1 7 (by simp) (by decide)]; exact z2
              · have q32 : t10.1 32 = upd (σ1.1 32) m 511 := by
                  rw [e10, wr_ne _ _ _ (by decide), e9, wr_ne _ _ _ (by decide), e8, wr_ne _ _ _ (by decide), e7, wr_at, F6.1 32 (by simp)]
                rw [q32, g6, upd_if, upd_if, upd_if]
                by_cases hkm : k = m
                · rw [if_pos hkm, if_pos hkm, if_pos hkm]; exact ⟨rfl, rfl, 511, by omega, rfl⟩
                · rw [if_neg hkm, if_neg hkm, if_neg hkm]; exact z3 k (by omega)
              · rw [e10, wr_at, upd_ne _ _ (by decide), e9, wr_at, upd_ne _ _ (by decide), e8, wr_at, upd_at]
              · rw [e10, wr_at, upd_ne _ _ (by decide), e9, wr_at, upd_at]
              · rw [e10, wr_at, upd_at]
