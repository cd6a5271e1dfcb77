/-! pair: sets, the second side -/
def fUp (f : Nat → Nat → Nat) (V X j : Nat) : Nat → Nat → Nat := fun R s => if R = V ∧ 1 ≤ s ∧ s ≤ j then f V s + f X (s - 1) else f R s
def fS (n : Nat) : Nat → Nat → Nat := fun R s => if R = 2 ^ n - 1 ∧ s = 0 then 1 else 0
theorem g5_0 {f w : Nat → Nat} (h : ∀ s, f s = 0) : g5 f w = 0 := by
  unfold g5
  rw [h, h, h, h, h]
  simp
theorem g5_1 {f w : Nat → Nat} (h : f 0 = 1) (h' : ∀ s, s ≠ 0 → f s = 0) : g5 f w = w 0 := by
  unfold g5
  rw [h, h' 1 (by decide), h' 2 (by decide), h' 3 (by decide), h' 4 (by decide)]
  simp
section
variable {n m : Nat} {a b : Nat → Nat} {σ : kk_St} {c : Nat → Int32}
def Phi (m : Nat) (a b : Nat → Nat) (z k T : Nat) (f : Nat → Nat → Nat) (X : Nat) : Nat := sumN (fun R => g5 (f R) (if R < X then wk m a b z (k + 1) R else wk m a b z k R)) T
theorem phi_no {z k T X : Nat} {f : Nat → Nat → Nat} (hk : k < m) (h : BR a b X k = true) : Phi m a b z k T f X = Phi m a b z k T f (X + 1) := by
  refine sumN_cong (fun R _ => ?_)
  by_cases e : R = X
  · rw [if_neg (by omega), if_pos (by omega), e]
    congr 1
    funext s
    exact wk_no hk h
  · by_cases e2 : R < X
    · rw [if_pos e2, if_pos (by omega)]
    · rw [if_neg e2, if_neg (by omega)]
theorem phi_yes (W : Wf n m a b) {z k T X : Nat} {f : Nat → Nat → Nat} (hz : z ≤ 4) (hk : k < m) (hX : X < 512) (hT : X < T) (h : BR a b X k = false) : Phi m a b z k T f X = Phi m a b z k T (fUp f (wo a b k X) X 4) (X + 1) := by
  have hb : X.testBit (a k) = true := by
    unfold BR at h
    cases y : X.testBit (a k) with
    | true => rfl
    | false => rw [y] at h; cases h
  have lt := wo_less W hk hX hb
  have y := fun s => wk_yes W (z := z) (s := s) hk h
  have w5 : wk m a b z (k + 1) (wo a b k X) 5 = 0 := if_neg (by omega)
  generalize hV : wo a b k X = V at lt y w5 ⊢
  have i1 := sumN_one (f := fun R => g5 (f R) (if R < X then wk m a b z (k + 1) R else wk m a b z k R)) (g := fun R => if R = V then g5 (fUp f V X 4 V) (wk m a b z (k + 1) V) else g5 (f R) (if R < X then wk m a b z (k + 1) R else wk m a b z k R)) (o := V) (n := T) (by omega) (fun q _ hq => by rw [if_neg hq])
  have i2 := sumN_one (f := fun R => if R = V then g5 (fUp f V X 4 V) (wk m a b z (k + 1) V) else g5 (f R) (if R < X then wk m a b z (k + 1) R else wk m a b z k R)) (g := fun R => g5 (fUp f V X 4 R) (if R < X + 1 then wk m a b z (k + 1) R else wk m a b z k R)) (o := X) (n := T) hT (fun q _ hq => by
    by_cases e : q = V
    · rw [if_pos e, e, if_pos (by omega)]
    · rw [if_neg e]
      have : fUp f V X 4 q = f q := by
        funext s
        unfold fUp
        rw [if_neg (fun x => e x.1)]
      rw [this]
      by_cases e2 : q < X
      · rw [if_pos e2, if_pos (by omega)]
      · rw [if_neg e2, if_neg (by omega)])
  rw [if_pos rfl, if_pos lt] at i1
  rw [if_neg (show ¬ X = V by omega), if_neg (Nat.lt_irrefl X), if_pos (show X < X + 1 by omega)] at i2
  have fX : fUp f V X 4 X = f X := by
    funext s
    unfold fUp
    rw [if_neg (fun x => by have := x.1; omega)]
  have key : g5 (fUp f V X 4 V) (wk m a b z (k + 1) V) + g5 (f X) (wk m a b z (k + 1) X) = g5 (f V) (wk m a b z (k + 1) V) + g5 (f X) (wk m a b z k X) := by
    have u0 : fUp f V X 4 V 0 = f V 0 := if_neg (by omega)
    have u1 : fUp f V X 4 V 1 = f V 1 + f X 0 := if_pos (by omega)
    have u2 : fUp f V X 4 V 2 = f V 2 + f X 1 := if_pos (by omega)
    have u3 : fUp f V X 4 V 3 = f V 3 + f X 2 := if_pos (by omega)
    have u4 : fUp f V X 4 V 4 = f V 4 + f X 3 := if_pos (by omega)
    unfold g5
    rw [u0, u1, u2, u3, u4, y 0, y 1, y 2, y 3, y 4, w5]
    simp only [Nat.add_mul, Nat.mul_add, Nat.mul_zero, Nat.zero_add]
    show _ = f V 0 * wk m a b z (k + 1) V 0 + f V 1 * wk m a b z (k + 1) V 1 + f V 2 * wk m a b z (k + 1) V 2 + f V 3 * wk m a b z (k + 1) V 3 + f V 4 * wk m a b z (k + 1) V 4 + (f X 0 * wk m a b z (k + 1) X 0 + f X 0 * wk m a b z (k + 1) V 1 + (f X 1 * wk m a b z (k + 1) X 1 + f X 1 * wk m a b z (k + 1) V 2) + (f X 2 * wk m a b z (k + 1) X 2 + f X 2 * wk m a b z (k + 1) V 3) + (f X 3 * wk m a b z (k + 1) X 3 + f X 3 * wk m a b z (k + 1) V 4) + (f X 4 * wk m a b z (k + 1) X 4 + 0))
    omega
  rw [fX] at i2
  unfold Phi
  omega
theorem sm_sets (M : RM n m a b c σ) (W : Wf n m a b) {z : Nat} (hz : z ≤ 4) {Q : Int32 → kk_St → Prop} (h : ∀ τ, frF [22] [] σ τ → Q (nI (Mc m a b m noB z)) τ) : f_X11_sets (nI z) σ Q := by
  have hm := W.2.2.1
  have hn := W.2.1
  obtain ⟨T, hT⟩ : ∃ T, T = 512 := ⟨_, rfl⟩
  have eT : (512 : Int32) = nI T := by rw [hT]; rfl
  have pn := p2_le hn
  have pp := p2_pos (n := n)
  unfold f_X11_sets
  refine sp_in ?_
  rw [show (4 : Int32) = nI 4 from rfl, isIx_in2 (by omega), isIx_lt (by omega) (show z < 4 + 1 by omega)]
  refine jn_t (by decide) ?_
  refine lf_2_0 2560 (by omega) (fun i τ => frF [22] [] σ τ ∧ ∀ j, j < i → τ.1 22 j = 0) (Nat.zero_le _) ⟨frF_rf, fun _ h => absurd h (Nat.not_lt_zero _)⟩ ?_ ?_
  · rintro rec i τ hi ⟨fr, i1⟩ hrec
    refine br_f (nI_ge (a := i) (b := 2560) hi (by omega)) ⟨vp_lt (by omega) (by omega), ?_⟩
    rintro _ rfl
    refine hrec _ ⟨frF_w fr (by simp) (by decide), fun j hj => ?_⟩
    rw [nI_clamp (by omega), wr_at, upd_if]
    by_cases e : j = i
    · rw [if_pos e]
    · rw [if_neg e]; exact i1 j (by omega)
  rintro rec τ0 ⟨fr0, i0⟩
  refine br_t (nI_le (a := 2560) (b := 2560) (Nat.le_refl _) (by omega)) ?_
  have M0 := RM_fr M fr0 (by simp) (by simp)
  refine sm_allPosts M0 hn ?_
  rw [all_nI hn, show (5 : Int32) = nI 5 from rfl, z_mul]
  refine ⟨vp_lt (by omega) (by omega), ?_⟩
  rintro _ rfl
  rw [nI_clamp (by omega)]
  have SB0 : ∀ R s, R < T → s ≤ 4 → (kk_wr τ0 22 (5 * (2 ^ n - 1)) 1).1 22 (5 * R + s) = nI (fS n R s) := fun R s hR hs => by
    rw [wr_at, upd_if]
    unfold fS
    by_cases e : R = 2 ^ n - 1 ∧ s = 0
    · rw [if_pos (by omega), if_pos e]; rfl
    · rw [if_neg (by omega), if_neg e]; exact i0 _ (by omega)
  have f1 : frF [22] [] σ (kk_wr τ0 22 (5 * (2 ^ n - 1)) 1) := frF_w fr0 (by simp) (by decide)
  have ph0 : Phi m a b z 0 T (fS n) 0 = Mc m a b m noB z := by
    have i1 := sumN_one (f := fun R => g5 (fS n R) (if R < 0 then wk m a b z (0 + 1) R else wk m a b z 0 R)) (g := fun _ => 0) (o := 2 ^ n - 1) (n := T) (by omega) (fun q _ hq => g5_0 (fun s => if_neg (fun x => hq x.1)))
    have z0 : ∀ N, sumN (fun _ => 0) N = 0 := fun N => by
      induction N with
      | zero => rfl
      | succ N ih => rw [sumN, ih]
    rw [z0, Nat.add_zero, Nat.zero_add, if_neg (Nat.not_lt_zero _), g5_1 (f := fS n (2 ^ n - 1)) (if_pos ⟨rfl, rfl⟩) (fun s hs => if_neg (fun x => hs x.2)), Nat.zero_add] at i1
    refine Eq.trans i1 ?_
    unfold wk
    rw [if_pos (Nat.zero_le _), Nat.sub_zero, Nat.sub_zero]
    refine Mc_cong m z (fun l _ hl => ?_) (Nat.le_refl _)
    have hw := W.2.2.2.1 l hl
    unfold BR noB
    rw [Nat.testBit_two_pow_sub_one, Nat.testBit_two_pow_sub_one, decide_eq_true (show a l < n by omega), decide_eq_true hw.2]
    rfl
  generalize kk_wr τ0 22 (5 * (2 ^ n - 1)) 1 = τ1 at SB0 f1 ⊢
  refine lf_2_0 m (by omega) (fun k τ => frF [22] [] σ τ ∧ ∃ f : Nat → Nat → Nat, (∀ R s, R < T → s ≤ 4 → τ.1 22 (5 * R + s) = nI (f R s)) ∧ Phi m a b z k T f 0 = Mc m a b m noB z) (Nat.zero_le _) ⟨f1, fS n, SB0, ph0⟩ ?_ ?_
  · rintro rec9 k τ hk ⟨fr, f, SB, ph⟩ hrec9
    have Mk := RM_fr M fr (by simp) (by simp)
    rw [Mk.2.1, eT]
    refine br_f (nI_ge hk (by omega)) ?_
    refine lf_2_0 T (by omega) (fun X ρ => frF [22] [] σ ρ ∧ ∃ f : Nat → Nat → Nat, (∀ R s, R < T → s ≤ 4 → ρ.1 22 (5 * R + s) = nI (f R s)) ∧ Phi m a b z k T f X = Mc m a b m noB z) (Nat.zero_le _) ⟨fr, f, SB, ph⟩ ?_ ?_
    · rintro rec17 X ρ hX ⟨fρ, f, SB, ph⟩ hrec17
      have Mρ := RM_fr M fρ (by simp) (by simp)
      refine br_f (nI_ge hX (by omega)) ?_
      refine sm_areThere Mρ W hk ?_
      dsimp only [kk_j1]
      refine bI_nz (fun y => ?_) (fun y => ?_)
      · have br : BR a b X k = false := by unfold BR; rw [y]; rfl
        have hb : X.testBit (a k) = true := (Bool.and_eq_true _ _ ▸ y).1
        have lt := wo_less W hk (show X < 512 by omega) hb
        refine lf_2_0 4 (by omega) (fun j θ => frF [22] [] σ θ ∧ ∀ R s, R < T → s ≤ 4 → θ.1 22 (5 * R + s) = nI (fUp f (wo a b k X) X j R s)) (Nat.zero_le _) ⟨fρ, fun R s hR hs => by rw [SB R s hR hs]; unfold fUp; rw [if_neg (by omega)]⟩ ?_ ?_
        · rintro rec23 j θ hj ⟨fθ, SBθ⟩ hrec23
          have Mθ := RM_fr M fθ (by simp) (by simp)
          refine br_f (nI_ge (a := j) (b := 4) hj (by omega)) ?_
          refine sm_without Mθ W hk (show X < 512 by omega) ?_
          rw [z_mul, z_mul, nI_add, nI_add, nI_1 (5 * wo a b k X + j)]
          have b1 : 5 * wo a b k X + j + 1 < 2560 := by omega
          have b2 : 5 * X + j < 2560 := by omega
          refine ⟨vp_lt b1 (by omega), vp_lt b2 (by omega), vp_lt b1 (by omega), ?_⟩
          rintro _ rfl
          rw [rd_nI (by omega), rd_nI (by omega), nI_clamp (by omega)]
          have v1 := SBθ (wo a b k X) (j + 1) (by omega) (by omega)
          have v2 := SBθ X j hX (by omega)
          rw [← Nat.add_assoc] at v1
          rw [v1, v2, nI_add]
          refine hrec23 _ ⟨frF_w fθ (by simp) (by decide), fun R s hR hs => ?_⟩
          rw [wr_at, upd_if]
          by_cases e : R = wo a b k X ∧ s = j + 1
          · obtain ⟨rfl, rfl⟩ := e
            rw [if_pos (by omega)]
            unfold fUp
            rw [if_neg (by omega), if_neg (by omega), if_pos (by omega), Nat.add_sub_cancel]
          · rw [if_neg (by omega), SBθ R s hR hs]
            unfold fUp
            by_cases e2 : R = wo a b k X ∧ 1 ≤ s ∧ s ≤ j
            · rw [if_pos e2, if_pos (by omega)]
            · rw [if_neg e2, if_neg (by omega)]
        · rintro rec23 θ ⟨fθ, SBθ⟩
          refine br_t (nI_le (a := 4) (b := 4) (Nat.le_refl _) (by omega)) (hrec17 _ ⟨fθ, fUp f (wo a b k X) X 4, SBθ, ?_⟩)
          rw [← phi_yes W hz hk (show X < 512 by omega) hX br]
          exact ph
      · have br : BR a b X k = true := by unfold BR; rw [y]; rfl
        exact hrec17 _ ⟨fρ, f, SB, by rw [← phi_no hk br]; exact ph⟩
    · rintro rec17 ρ ⟨fρ, f, SB, ph⟩
      refine br_t (nI_le (Nat.le_refl _) (by omega)) (hrec9 _ ⟨fρ, f, SB, ?_⟩)
      refine Eq.trans (sumN_cong (fun R hR => ?_)) ph
      rw [if_neg (Nat.not_lt_zero _), if_pos hR]
  · rintro rec9 τ ⟨fr, f, SB, ph⟩
    have Mk := RM_fr M fr (by simp) (by simp)
    rw [Mk.2.1, eT]
    refine br_t (nI_le (Nat.le_refl _) (by omega)) ?_
    refine lf_2_1 T (by omega) (fun R x => x = nI (sumN (fun R => f R z) R)) (Nat.zero_le _) rfl ?_ ?_
    · rintro rec12 R _ hR rfl hrec12
      refine br_f (nI_ge hR (by omega)) ?_
      rw [z_mul, nI_add]
      refine ⟨vp_lt (by omega) (by omega), ?_⟩
      rintro _ rfl
      rw [rd_nI (by omega), SB R z hR hz, nI_add]
      exact hrec12 _ rfl
    · rintro rec12 _ rfl
      refine br_t (nI_le (Nat.le_refl _) (by omega)) ?_
      have : sumN (fun R => f R z) T = Mc m a b m noB z := by
        refine Eq.trans (sumN_cong (fun R hR => ?_)) ph
        rw [if_neg (Nat.not_lt_zero _)]
        have w : ∀ s, wk m a b z m R s = if s = z then 1 else 0 := fun s => by
          unfold wk
          rw [Nat.sub_self]
          by_cases e : s = z
          · rw [if_pos (by omega), if_pos e, e, Nat.sub_self]; rfl
          · rw [if_neg e]
            by_cases e2 : s ≤ z
            · rw [if_pos e2]
              show (if z - s = 0 then 1 else 0) = 0
              rw [if_neg (by omega)]
            · rw [if_neg e2]
        unfold g5
        rw [w, w, w, w, w]
        match z, hz with
        | 0, _ => simp
        | 1, _ => simp
        | 2, _ => simp
        | 3, _ => simp
        | 4, _ => simp
      rw [this]
      exact h τ fr
end
theorem q_sets : pr_sets Rel := by
  rintro σ1 σ2 ⟨n, m, a, b, c, kp, ls, kf, gf, W, P, M, N, K, Z⟩ v1
  have same : Rel σ1 σ2 := ⟨n, m, a, b, c, kp, ls, kf, gf, W, P, M, N, K, Z⟩
  unfold f_X10_sets
  dsimp only [kk_j0]
  refine ixbr' (k := 4) (by omega) (fun y => ?_) (fun y => ?_)
  · obtain ⟨z, hz, rfl⟩ := isIx_ex y
    refine sc_gatherAll N W (fun τ fr H => ⟨vp_lt (by omega) (by omega), ?_⟩)
    rw [rd_nI (by omega), (H z (by omega)).1]
    refine sm_sets M W (by omega) (fun τ2 fr2 => ⟨rfl, ?_⟩)
    exact ⟨n, m, a, b, c, kp, ls, kf, gf, W, P, RM_fr M fr2 (by simp) (by simp), RN_fr N fr (by simp), RK_fr K fr (by simp), Rest_fr Z fr fr2 (by simp) (by simp) (by simp)⟩
  · unfold f_X11_sets
    refine sp_in ?_
    rw [show (4 : Int32) = nI 4 from rfl, isIx_in2 (by omega), y]
    exact jn_f rfl ⟨rfl, same⟩
