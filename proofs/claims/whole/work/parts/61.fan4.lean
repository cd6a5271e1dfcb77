/-! pair: fan -/
theorem q_fan : pr_fan Rel := by
  rintro σ1 σ2 ⟨n, m, a, b, c, kp, ls, kf, gf, W, P, M, N, K, Z⟩ v1 v2 v3
  have hm := W.2.2.1
  have hn := W.2.1
  have same : Rel σ1 σ2 := ⟨n, m, a, b, c, kp, ls, kf, gf, W, P, M, N, K, Z⟩
  unfold f_X10_fan
  refine sc_isLine N hm ?_
  dsimp only [kk_j0]
  refine bI_zn (fun h1 => ?_) (fun h1 => ?_)
  · unfold f_X11_fan
    refine sm_isLine M hm ?_
    rw [h1]
    exact br_t rfl ⟨rfl, same⟩
  · obtain ⟨k, hk, rfl⟩ := isIx_ex h1
    have hw := W.2.2.2.1 k hk
    have hna : ∀ {Q : Int32 → kk_St → Prop}, ((decide (nI (a k) = v2) || decide (nI (b k) = v2)) = false → Q (-1) σ2) → ((decide (nI (a k) = v2) || decide (nI (b k) = v2)) = true → ¬ (-1 : Int32) ≤ v3 → Q (-1) σ2) → ((decide (nI (a k) = v2) || decide (nI (b k) = v2)) = true → (-1 : Int32) ≤ v3 → ¬ c k = -1 → Q (-2) σ2) → ((decide (nI (a k) = v2) || decide (nI (b k) = v2)) = true → (-1 : Int32) ≤ v3 → c k = -1 → f_X11_laysFan (nI k) v2 σ2 (fun τ => kk_j1 (fun t => Q t τ) (fun J => (¬ v3 = -1 → ((τ.1 0 11) ≤ v3 → J (-1)) ∧ (¬ (τ.1 0 11) ≤ v3 → vp_in v3 9 ∧ J (kk_rd τ 6 v3))) ∧ (v3 = -1 → J (τ.1 0 11))))) → f_X11_fan (nI k) v2 v3 σ2 Q := by
      intro Q g1 g2 g3 g4
      unfold f_X11_fan
      refine sm_isLine M hm ?_
      rw [h1]
      refine br_f (by decide) ?_
      refine sm_isAtV M hm hk ?_
      refine bI_zn (fun z => g1 z) (fun z => ?_)
      refine ⟨fun y => ⟨vp_lt (by omega) (by omega), ?_⟩, fun y => g2 z y⟩
      rw [rd_nI (by omega), M.2.2.2.2 k hk]
      exact ⟨fun u => g4 z y ((neg_lt W P hk).mp u), fun u => g3 z y (fun q => u ((neg_lt W P hk).mpr q))⟩
    refine ⟨fun h3 => ?_, fun h3 => ⟨vp_lt (by omega) (by omega), ?_⟩⟩
    · refine hna (fun _ => ⟨rfl, same⟩) (fun _ _ => ⟨rfl, same⟩) (fun _ y _ => absurd h3 (Int32.not_lt.mpr y)) (fun _ y _ => absurd h3 (Int32.not_lt.mpr y))
    have h3 : (-1 : Int32) ≤ v3 := Int32.not_lt.mp h3
    rw [rd_nI (by omega), rd_nI (by omega), rd_nI (by omega), N.2.2.2.1 k hk, N.2.2.2.2.1 k hk, K.1 k (by omega), if_pos hk]
    have go : ∀ x, x < 9 → v2 = nI x → inc a b k x = true → vp_in (nI k) 20 ∧ (c k = -1 → f_X4_lay (nI k) v2 σ1 (fun σ_4 => (¬ v3 = -1 → kk_j1 (fun t_5 => f_X11_fan (nI k) v2 v3 σ2 (fun r' σ2' => t_5 = r' ∧ Rel σ_4 σ2')) (fun J_6 => ((σ_4.1 3 3) ≤ v3 → J_6 (-1)) ∧ (¬ (σ_4.1 3 3) ≤ v3 → vp_in v3 9 ∧ J_6 (kk_rd σ_4 18 v3)))) ∧ (v3 = -1 → f_X11_fan (nI k) v2 v3 σ2 (fun r' σ2' => σ_4.1 3 3 = r' ∧ Rel σ_4 σ2')))) ∧ (¬ c k = -1 → f_X11_fan (nI k) v2 v3 σ2 (fun r' σ2' => (-2 : Int32) = r' ∧ Rel σ1 σ2')) := by
      rintro x hx rfl hi
      have hd : (decide (nI (a k) = nI x) || decide (nI (b k) = nI x)) = true := by
        rcases inc_iff.mp hi with z | z <;> simp [z]
      have hnd : ¬ (decide (nI (a k) = nI x) || decide (nI (b k) = nI x)) = false := fun z => by rw [hd] at z; cases z
      refine ⟨vp_lt (by omega) (by omega), fun hc => ?_, fun hc => hna (fun z => absurd z hnd) (fun _ y => absurd h3 y) (fun _ _ _ => ⟨rfl, same⟩) (fun _ _ y => absurd y hc)⟩
      refine sc_lay N K W P hk hi (fun τ s F hs hs8 e3 e18 => ?_)
      have fin : ∀ r : Int32, (∀ ρ, ρ.1 0 11 = nI s → (∀ j, j < s → ρ.1 6 j = nI (fsT m a b c x (far a b x k) j).1) → Rel τ ρ → kk_j1 (fun t => r = t ∧ Rel τ ρ) (fun J => (¬ v3 = -1 → ((ρ.1 0 11) ≤ v3 → J (-1)) ∧ (¬ (ρ.1 0 11) ≤ v3 → vp_in v3 9 ∧ J (kk_rd ρ 6 v3))) ∧ (v3 = -1 → J (ρ.1 0 11)))) → f_X11_fan (nI k) (nI x) v3 σ2 (fun r' σ2' => r = r' ∧ Rel τ σ2') := by
        intro r hr
        refine hna (fun z => absurd z hnd) (fun _ y => absurd h3 y) (fun _ _ y => absurd hc y) (fun _ _ _ => ?_)
        refine sm_laysFan M W P hk hi (fun ρ s' F' hs' hs8' e0 e6 => ?_)
        have hss := Fsz_one hs' hs
        subst hss
        exact hr ρ e0 e6 ⟨n, m, a, b, c, kp, ls, kf, gf, W, P, RM_fr M F' (by simp) (by simp), RN_fr N F (by simp), RK_fr K F (by simp), Rest_fr Z F F' (by simp) (by simp) (by simp)⟩
      refine ⟨fun hv => ?_, fun hv => ?_⟩
      · dsimp only [kk_j1]
        rw [e3]
        refine ⟨fun hz => ?_, fun hz => ?_⟩
        · refine fin _ (fun ρ p1 p2 p3 => ?_)
          dsimp only [kk_j1]
          rw [p1]
          exact jn_t hv (br_t hz ⟨rfl, p3⟩)
        · have hv0 : ¬ v3 < 0 := fun z => by
            have h5 := Int32.lt_iff_toInt_lt.mp z
            have h6 := Int32.le_iff_toInt_le.mp h3
            rw [show (0 : Int32).toInt = 0 from rfl] at h5
            rw [show (-1 : Int32).toInt = -1 from rfl] at h6
            exact hv (Int32.toInt_inj.mp (by rw [show (-1 : Int32).toInt = -1 from rfl]; omega))
          obtain ⟨j, hj2, rfl⟩ := nI_of hv0
          have hjs : j < s := Nat.not_le.mp (fun q => hz (nI_le q hj2))
          refine ⟨vp_lt (by omega) (by omega), ?_⟩
          refine fin _ (fun ρ p1 p2 p3 => ?_)
          dsimp only [kk_j1]
          rw [p1]
          refine jn_t hv (br_f hz ⟨vp_lt (by omega) (by omega), ?_, p3⟩)
          rw [rd_nI hj2, rd_nI hj2, e18 j hjs, p2 j hjs]
      · refine fin _ (fun ρ p1 p2 p3 => ?_)
        dsimp only [kk_j1]
        rw [p1, e3]
        exact jn_f hv ⟨rfl, p3⟩
    refine ⟨fun hz => go (a k) (by omega) hz.symm (inc_iff.mpr (Or.inl rfl)), fun hz => ⟨vp_lt (by omega) (by omega), ?_⟩⟩
    refine ⟨fun hy => go (b k) (by omega) hy.symm (inc_iff.mpr (Or.inr rfl)), fun hy => ?_⟩
    have hd : (decide (nI (a k) = v2) || decide (nI (b k) = v2)) = false := by simp [hz, hy]
    have hnd : ¬ (decide (nI (a k) = v2) || decide (nI (b k) = v2)) = true := fun z => by rw [hd] at z; cases z
    exact hna (fun _ => ⟨rfl, same⟩) (fun z => absurd z hnd) (fun z => absurd z hnd) (fun z => absurd z hnd)
