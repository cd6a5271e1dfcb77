/-! pairs: grow, growAll -/
theorem grow_rest {n m : Nat} {a b : Nat → Nat} {kp ls : Nat → Int32} {kf gf : Bool} {σ1 σ2 τ1 τ2 : kk_St} {r d s w B : Nat} (Z : Rest n m a b kp ls kf gf σ1 σ2) (F1 : frL [3, 18, 16, 17, 19, 4] σ1 τ1) (F2 : frF [6, 7, 3] [11, 9, 12] σ2 τ2) (a0 : τ1.1 19 0 = nI r) (a1 : τ1.1 19 1 = nI d) (a2 : τ1.1 19 2 = nI s) (a3 : τ1.1 19 3 = nI w) (a4 : τ1.1 19 4 = nI B) (a5 : τ1.1 4 4 = 1) (b0 : τ2.1 7 0 = nI r) (b1 : τ2.1 7 1 = nI d) (b2 : τ2.1 7 2 = nI s) (b3 : τ2.1 7 3 = nI w) (b4 : τ2.1 7 4 = nI B) (b5 : τ2.1 0 12 = 1) : Rest n m a b kp ls kf true τ1 τ2 := by
  obtain ⟨r1, r2, r3, r4⟩ := Z
  refine ⟨?_, ⟨a5, b5, fun _ i hi => ?_⟩, ?_, CI_fr r4 (F1.1 7 (by simp)) (F1.1 22 (by simp))⟩
  · rw [F1.1 0 (by simp), F1.1 31 (by simp), F2.2.1 8 (by simp), F2.1 5 (by simp) (by decide)]; exact r1
  · match i, hi with
    | 0, _ => rw [a0, b0]
    | 1, _ => rw [a1, b1]
    | 2, _ => rw [a2, b2]
    | 3, _ => rw [a3, b3]
    | 4, _ => rw [a4, b4]
  · rw [F1.1 32 (by simp), F2.1 4 (by simp) (by decide)]; exact r3
theorem q_grow : pr_grow Rel := by
  rintro σ1 σ2 ⟨n, m, a, b, c, kp, ls, kf, gf, W, P, M, N, K, Z⟩ v1
  have hm := W.2.2.1
  have hn := W.2.1
  have same : Rel σ1 σ2 := ⟨n, m, a, b, c, kp, ls, kf, gf, W, P, M, N, K, Z⟩
  unfold f_X10_grow
  refine sc_isLine N hm ?_
  refine bI_nz (fun h1 => ?_) (fun h1 => ?_)
  · obtain ⟨k, hk, rfl⟩ := isIx_ex h1
    refine ⟨vp_lt (by omega) (by omega), ?_⟩
    rw [rd_nI (by omega), K.1 k (by omega), if_pos hk]
    have mod : ∀ {Q : Int32 → kk_St → Prop}, (c k = -1 → f_X11_grows (nI k) σ2 Q) → (¬ c k = -1 → Q (-2) σ2) → f_X11_grow (nI k) σ2 Q := by
      intro Q g1 g2
      unfold f_X11_grow
      refine sm_isLine M hm ?_
      rw [h1]
      refine jn_t (by decide) ⟨vp_lt (by omega) (by omega), ?_⟩
      rw [rd_nI (by omega), M.2.2.2.2 k hk]
      dsimp only [kk_j2]
      exact ⟨fun z => g1 ((neg_lt W P hk).mp z), fun z => g2 (fun y => z ((neg_lt W P hk).mpr y))⟩
    refine ⟨fun hc => ?_, fun hc => mod (fun y => absurd y hc) (fun _ => ⟨rfl, same⟩)⟩
    have hi0 : inc a b k (a k) = true := inc_iff.mpr (Or.inl rfl)
    obtain ⟨s, r, d, B, c', w, G⟩ := GW_ex W P hk hi0 hc
    have U := GW_use W P hk hi0 hc G
    refine sc_raise N K W P hk hc G (fun τ F1 K1 a0 a1 a2 a3 a4 a5 => ⟨vp_lt (by omega) (by omega), ?_⟩)
    rw [rd_nI (by omega), K1.1 k (by omega), if_pos hk]
    refine mod (fun _ => ?_) (fun y => absurd hc y)
    refine sm_grows M W P hk hc G (fun ρ F2 M1 b0 b1 b2 b3 b4 b5 => ⟨rfl, ?_⟩)
    exact ⟨n, m, a, b, _, kp, ls, kf, true, W, U.2.2.2.2, M1, RN_fr N F1 (by simp), K1, grow_rest Z F1 F2 a0 a1 a2 a3 a4 a5 b0 b1 b2 b3 b4 b5⟩
  · unfold f_X11_grow
    refine sm_isLine M hm ?_
    rw [h1]
    exact jn_f rfl ⟨rfl, same⟩
