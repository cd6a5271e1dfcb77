/-! pair: ways -/
def nmL (k : Nat) : Nat → Int64
  | 0 => 1
  | u + 1 => nmL k u * (nI k - nI u).toInt64
def sL (k : Nat) (f : Nat → Nat) : Nat → Int64
  | 0 => 0
  | u + 1 => sL k f u + nL (f u) * nmL k u
theorem sL_cong {k : Nat} {f g : Nat → Nat} : ∀ {u : Nat}, (∀ j, j < u → f j = g j) → sL k f u = sL k g u
  | 0, _ => rfl
  | u + 1, h => by
    show sL k f u + nL (f u) * nmL k u = sL k g u + nL (g u) * nmL k u
    rw [sL_cong (fun j hj => h j (by omega)), h u (by omega)]
theorem sL_tail {k : Nat} {f : Nat → Nat} {v : Nat} : ∀ {u : Nat}, v ≤ u → (∀ j, v ≤ j → j < u → f j = 0) → sL k f u = sL k f v
  | 0, h, _ => by rw [Nat.le_zero.mp h]
  | u + 1, h, g => by
    by_cases e : v = u + 1
    · rw [e]
    · show sL k f u + nL (f u) * nmL k u = _
      rw [g u (by omega) (by omega), sL_tail (show v ≤ u by omega) (fun j h1 h2 => g j h1 (by omega))]
      have : nL 0 * nmL k u = 0 := Int64.zero_mul
      rw [this, Int64.add_zero]
section
variable {n m : Nat} {a b : Nat → Nat} {c : Nat → Int32} {σ : kk_St}
theorem Wg_B {e : Nat → Nat} {B : Nat} (he : ∀ u, u ≤ m → e u ≤ B) : ∀ q p, q ≤ m → m ≤ 9 → (∀ k, k ≤ m - q → pa p k ≤ k) → Wg m a b e 0 q p ≤ B * 10 ^ q
  | 0, p, _, _, hp => by
    rw [Nat.pow_zero, Nat.mul_one]
    exact he _ (hp m (by omega))
  | q + 1, p, hq, h9, hp => by
    show sumN (fun g => 0 + (if fits a b p (m - 1 - q) g then Wg m a b e 0 q (ext1 p (m - 1 - q) g) else 0)) (pa p (m - 1 - q) + 1) + 0 ≤ _
    have h1 := hp (m - 1 - q) (by omega)
    have bd : ∀ g, g < pa p (m - 1 - q) + 1 → 0 + (if fits a b p (m - 1 - q) g then Wg m a b e 0 q (ext1 p (m - 1 - q) g) else 0) ≤ B * 10 ^ q := fun g hg => by
      have := Wg_B he q (ext1 p (m - 1 - q) g) (by omega) h9 (fun k hk => by
        by_cases ek : k = m - 1 - q + 1
        · rw [ek, pa_x]
          split <;> omega
        · rw [pa_cong (p := ext1 p (m - 1 - q) g) (p' := p) (fun j hj => x1_ne _ _ (by omega))]
          exact hp k (by omega))
      split
      · omega
      · omega
    have h2 : sumN (fun g => 0 + (if fits a b p (m - 1 - q) g then Wg m a b e 0 q (ext1 p (m - 1 - q) g) else 0)) (pa p (m - 1 - q) + 1) ≤ sumN (fun _ => B * 10 ^ q) (pa p (m - 1 - q) + 1) := sumN_mono bd
    have h3 := sumN_le (f := fun _ => B * 10 ^ q) (x := B * 10 ^ q) (fun _ => Nat.le_refl _) (pa p (m - 1 - q) + 1)
    have h4 := Nat.mul_le_mul_left (B * 10 ^ q) (show pa p (m - 1 - q) + 1 ≤ 10 by omega)
    rw [Nat.pow_succ, ← Nat.mul_assoc]
    omega
theorem pa_z : ∀ k, pa (fun _ => 0) k ≤ k
  | 0 => Nat.le_refl _
  | k + 1 => by
    have := pa_z k
    rw [pa_s]
    split <;> omega
/-- how many shares of all lines have so many parts -/
def shr (m : Nat) (a b : Nat → Nat) (z : Nat) : Nat := Wg m a b (dl z) 0 m (fun _ => 0)
theorem shr_lt (h9 : m ≤ 9) (z : Nat) : shr m a b z < 2 ^ 31 := by
  have h1 := Wg_B (m := m) (a := a) (b := b) (e := dl z) (B := 1) (fun u _ => dl_le z u) m (fun _ => 0) (Nat.le_refl _) h9 (fun k _ => pa_z k)
  have h2 : 10 ^ m ≤ 10 ^ 9 := Nat.pow_le_pow_right (by omega) h9
  unfold shr
  omega
theorem shr_0 (h9 : m ≤ 9) {z : Nat} (hz : m < z) : shr m a b z = 0 := by
  have h1 := Wg_B (m := m) (a := a) (b := b) (e := dl z) (B := 0) (fun u hu => by
    unfold dl
    rw [if_neg (by omega)]; exact Nat.le_refl _) m (fun _ => 0) (Nat.le_refl _) h9 (fun k _ => pa_z k)
  unfold shr
  omega
theorem sc_count (N : RN n m a b σ) (W : Wf n m a b) (h9 : m ≤ 9) {k : Nat} {Q : Int64 → kk_St → Prop} (h : ∀ τ, frL [25, 26] σ τ → Q (sL k (shr m a b) 10) τ) : f_X8_countColourings (nI k) σ Q := by
  unfold f_X8_countColourings
  refine sc_fill (by omega) (fun τ1 a1 a2 fr1 => ?_)
  refine sc_fill (by omega) (fun τ2 b1 b2 fr2 => ?_)
  have fr : frL [25, 26] σ τ2 := frL_tr (frL_mono fr1 (by simp)) (frL_mono fr2 (by simp))
  have g := sc_share W h9 30 m (fun _ => 0) τ2 (fun _ => 0)
  rw [Nat.sub_self] at g
  refine g _ (Nat.le_refl _) (by omega) (RN_fr N fr (by simp)) (fun g hg => ?_) (fun z hz => ?_) (fun k hk => pa_z k) (fun τ3 fr3 _ h3 => ?_)
  · rw [b1 g hg, ← mk_0 m]
    exact mk_cong (fun j _ => by rw [decide_eq_false (Nat.not_lt_zero j)]; rfl)
  · rw [fr2.1 26 (by simp), a1 z (by omega)]; rfl
  · refine lf_3_2 10 (by omega) (fun u x y => x = sL k (shr m a b) u ∧ y = nmL k u) (Nat.zero_le _) ⟨rfl, rfl⟩ ?_ ?_
    · rintro rec u _ _ hu ⟨rfl, rfl⟩ hrec
      refine br_f (nI_nlt (a := 9) (b := u) (by omega) (by omega)) ⟨vp_lt (by omega) (by omega), ?_⟩
      rintro _ rfl _ rfl
      refine hrec _ _ ⟨?_, rfl⟩
      rw [rd_nI (by omega), h3 u (by omega), Nat.zero_add]
      show _ + (nI (shr m a b u)).toInt64 * _ = _
      rw [nL_nI (shr_lt h9 u)]
      rfl
    · rintro rec _ _ ⟨rfl, rfl⟩
      exact br_t (nI_lt (a := 9) (b := 10) (by omega) (by omega)) (h τ3 (frL_tr fr fr3))
end
theorem q_ways : pr_ways Rel := by
  rintro σ1 σ2 ⟨n, m, a, b, c, kp, ls, kf, gf, W, P, M, N, K, Z⟩ v1
  have same : Rel σ1 σ2 := ⟨n, m, a, b, c, kp, ls, kf, gf, W, P, M, N, K, Z⟩
  have hm := W.2.2.1
  unfold f_X10_ways
  refine sc_isFew ?_
  refine bI_nz (fun z => ?_) (fun z => ?_)
  · obtain ⟨k, hk, rfl⟩ := isIx_ex z
    dsimp only [kk_j2]
    rw [N.2.1]
    have mod : ∀ {Q : Int64 → kk_St → Prop}, (m ≤ 9 → ∀ τ, frF [16] [] σ2 (τ.1, σ2.2) → Q (sL k (shr m a b) (m + 1)) τ) → (9 < m → Q (-2) σ2) → f_X11_ways (nI k) σ2 Q := by
      intro Q q1 q0
      unfold f_X11_ways
      refine sp_in ?_
      rw [show (9 : Int32) = nI 9 from rfl, isIx_in2 (by omega), z, M.2.1]
      refine jn_t (by decide) ?_
      rcases Nat.lt_or_ge 9 m with g | g
      · exact br_f (nI_ge g (by omega)) (q0 g)
      · refine br_t (nI_le g (by omega)) ?_
        refine sm_laysParted M W g (fun τ fr hz => ?_)
        have Mk : RM n m a b c τ := (RM_fr M fr (by simp) (by simp) : RM n m a b c (τ.1, σ2.2))
        refine lf_2_1 (m + 1) (by omega) (fun u x => x = sL k (shr m a b) u) (Nat.zero_le _) rfl ?_ ?_
        · rintro rec u _ hu rfl hrec
          rw [Mk.2.1]
          refine br_f (nI_nlt (by omega) (by omega)) ?_
          refine lf_2_1 u (by omega) (fun j x => x = nmL k j) (Nat.zero_le _) rfl ?_ ?_
          · rintro rec8 j _ hj rfl hrec8
            refine br_f (nI_ge hj (by omega)) ?_
            rintro _ rfl
            exact hrec8 _ rfl
          · rintro rec8 _ rfl
            refine br_t (nI_le (Nat.le_refl _) (by omega)) ⟨vp_lt (by omega) (by omega), ?_⟩
            rintro _ rfl
            rw [nI_clamp (by omega), hz u (by omega)]
            exact hrec _ rfl
        · rintro rec _ rfl
          rw [Mk.2.1]
          exact br_t (nI_lt (by omega) (by omega)) (q1 g τ fr)
    rcases Nat.lt_or_ge 9 m with g | g
    · exact br_f (nI_ge (a := 9) (b := m) g (by omega)) (mod (fun x => absurd g (by omega)) (fun _ => ⟨rfl, same⟩))
    · refine br_t (nI_le (a := m) (b := 9) g (by omega)) ?_
      refine sc_count N W g (fun τ fr => mod (fun _ τ2 fr2 => ⟨?_, ?_⟩) (fun x => absurd x (by omega)))
      · exact sL_tail (by omega) (fun j h1 h2 => shr_0 g (by omega))
      · have Z' : Rest n m a b kp ls kf gf τ (τ2.1, σ2.2) := Rest_fr Z fr fr2 (by simp) (by simp) (by simp)
        have M' : RM n m a b c (τ2.1, σ2.2) := RM_fr M fr2 (by simp) (by simp)
        exact ⟨n, m, a, b, c, kp, ls, kf, gf, W, P, M', RN_fr N fr (by simp), RK_fr K fr (by simp), Z'⟩
  · unfold f_X11_ways
    refine sp_in ?_
    rw [show (9 : Int32) = nI 9 from rfl, isIx_in2 (by omega), z]
    exact jn_f rfl ⟨rfl, same⟩
