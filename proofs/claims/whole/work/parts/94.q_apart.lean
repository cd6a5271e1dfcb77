/-! pair: apart, both sides -/
section
variable {n m : Nat} {a b : Nat → Nat} {σ : kk_St} {c : Nat → Int32}
def TA (m : Nat) (a b : Nat → Nat) (σ : kk_St) : Prop := ∀ k R, k ≤ m → R < 512 → σ.1 21 (512 * k + R) = nI (Ap a b k R)
theorem sm_apartBy (W : Wf n m a b) {k R : Nat} (hk : k ≤ m) (hR : R < 512) {x : Nat} (h21 : σ.1 21 (512 * k + R) = nI x) {Q : Int32 → Prop} (h : Q (nI x)) : f_X11_apartBy (nI k) (nI R) σ Q := by
  have hm := W.2.2.1
  unfold f_X11_apartBy
  rw [show (512 : Int32) = nI 512 from rfl, z_mul, nI_add, rd_nI (by omega), h21]
  exact ⟨vp_lt (by omega) (by omega), h⟩
theorem sm_laysApart (M : RM n m a b c σ) (W : Wf n m a b) {Q : kk_St → Prop} (h : ∀ τ, frF [21] [] σ τ → TA m a b τ → Q τ) : f_X11_laysApart σ Q := by
  have hm := W.2.2.1
  unfold f_X11_laysApart
  refine lf_2_0 512 (by omega) (fun i τ => frF [21] [] σ τ ∧ ∀ j, j < i → τ.1 21 j = 0) (Nat.zero_le _) ⟨frF_rf, fun _ h => absurd h (Nat.not_lt_zero _)⟩ ?_ ?_
  · rintro rec i τ hi ⟨fr, i1⟩ hrec
    refine br_f (nI_ge (a := i) (b := 512) hi (by omega)) ⟨vp_lt (by omega) (by omega), ?_⟩
    rintro _ rfl
    refine hrec _ ⟨frF_w fr (by simp) (by decide), fun j hj => ?_⟩
    rw [nI_clamp (by omega), wr_at, upd_if]
    by_cases e : j = i
    · rw [if_pos e]
    · rw [if_neg e]; exact i1 j (by omega)
  rintro rec τ0 ⟨fr0, i0⟩
  refine br_t (nI_le (a := 512) (b := 512) (Nat.le_refl _) (by omega)) ?_
  refine lf_2_0 m (by omega) (fun i τ => frF [21] [] σ τ ∧ ∀ k R, k ≤ i → R < 512 → τ.1 21 (512 * k + R) = nI (Ap a b k R)) (Nat.zero_le _) ⟨fr0, fun k R hk hR => ?_⟩ ?_ ?_
  · obtain rfl : k = 0 := by omega
    rw [i0 _ (by omega)]; rfl
  · rintro rec6 i τ hi ⟨fr, T⟩ hrec6
    have Mk := RM_fr M fr (by simp) (by simp)
    rw [Mk.2.1]
    refine br_f (nI_ge hi (by omega)) ?_
    refine lf_2_0 512 (by omega) (fun X ρ => frF [21] [] σ ρ ∧ (∀ k R, k ≤ i → R < 512 → ρ.1 21 (512 * k + R) = nI (Ap a b k R)) ∧ ∀ R, R < X → ρ.1 21 (512 * (i + 1) + R) = nI (Ap a b (i + 1) R)) (Nat.zero_le _) ⟨fr, T, fun _ h => absurd h (Nat.not_lt_zero _)⟩ ?_ ?_
    · rintro rec9 X ρ hX ⟨fρ, Tρ, Tn⟩ hrec9
      have Mρ := RM_fr M fρ (by simp) (by simp)
      refine br_f (nI_ge (a := X) (b := 512) hX (by omega)) ?_
      refine sm_apartBy W (show i ≤ m by omega) hX (Tρ i X (Nat.le_refl _) hX) ?_
      refine sm_areThere Mρ W hi ?_
      dsimp only [kk_j1]
      have go : ∀ v, v = nI (Ap a b (i + 1) X) → (vp_in ((512 : Int32) * (nI i + 1) + nI X) 10752 ∧ ∀ σ_14 : kk_St, σ_14 = kk_wr ρ 21 (Int32.toNatClampNeg ((512 : Int32) * (nI i + 1) + nI X)) v → rec9 (nI X + 1) σ_14) := by
        rintro _ rfl
        rw [nI_1 i, show (512 : Int32) = nI 512 from rfl, z_mul, nI_add]
        refine ⟨vp_lt (by omega) (by omega), ?_⟩
        rintro _ rfl
        rw [nI_clamp (by omega)]
        refine hrec9 _ ⟨frF_w fρ (by simp) (by decide), fun k R hk hR => ?_, fun R hR => ?_⟩
        · rw [wr_at, upd_ne _ _ (by omega)]; exact Tρ k R hk hR
        · rw [wr_at, upd_if]
          by_cases e : R = X
          · rw [if_pos (by omega), e]
          · rw [if_neg (by omega)]; exact Tn R (by omega)
      have l1 := Ap_le (a := a) (b := b) i X
      have l2 := Ap_le (a := a) (b := b) i (wo a b i X)
      refine bI_zn (fun z => go _ ?_) (fun z => ?_)
      · have : Ap a b (i + 1) X = Ap a b i X := if_neg (fun y => by rw [z] at y; cases y.1)
        rw [this]
      · refine sm_without Mρ W hi hX ?_
        refine sm_apartBy W (show i ≤ m by omega) wo_lt (Tρ i _ (Nat.le_refl _) wo_lt) ?_
        have e1 : (1 : Int32) + nI (Ap a b i (wo a b i X)) = nI (1 + Ap a b i (wo a b i X)) := by
          rw [show (1 : Int32) = nI 1 from rfl, nI_add]
        rw [e1]
        rcases Nat.lt_or_ge (Ap a b i X) (1 + Ap a b i (wo a b i X)) with g | g
        · refine br_f (nI_ge g (by omega)) (go _ ?_)
          have : Ap a b (i + 1) X = 1 + Ap a b i (wo a b i X) := if_pos ⟨z, g⟩
          rw [this]
        · refine br_t (nI_le g (by omega)) (go _ ?_)
          have : Ap a b (i + 1) X = Ap a b i X := if_neg (fun y => by omega)
          rw [this]
    · rintro rec9 ρ ⟨fρ, Tρ, Tn⟩
      refine br_t (nI_le (a := 512) (b := 512) (Nat.le_refl _) (by omega)) (hrec6 _ ⟨fρ, fun k R hk hR => ?_⟩)
      by_cases e : k = i + 1
      · rw [e]; exact Tn R hR
      · exact Tρ k R (by omega) hR
  · rintro rec6 τ ⟨fr, T⟩
    have Mk := RM_fr M fr (by simp) (by simp)
    rw [Mk.2.1]
    exact br_t (nI_le (Nat.le_refl _) (by omega)) (h τ fr T)
theorem sm_apart (M : RM n m a b c σ) (W : Wf n m a b) {w : Nat} (hw : w < 2) {Q : Int32 → kk_St → Prop} (h : ∀ τ, frF [21] [] σ τ → Q (if w = 0 then nI (Ap a b m (2 ^ n - 1)) else mk (Dp a b m (2 ^ n - 1)) m) τ) : f_X11_apart (nI w) σ Q := by
  have hm := W.2.2.1
  have hn := W.2.1
  have pn := p2_le hn
  have pp := p2_pos (n := n)
  unfold f_X11_apart
  refine sp_in ?_
  rw [ix2, isIx_lt (by omega) (show w < 2 by omega)]
  refine jn_t (by decide) ?_
  refine sm_laysApart M W (fun τ fr T => ?_)
  have Mk := RM_fr M fr (by simp) (by simp)
  refine sm_allPosts Mk hn ?_
  rw [all_nI hn, Mk.2.1]
  have hq := h τ fr
  refine ⟨fun e => ?_, fun e => ?_⟩
  · have w1 : ¬ w = 0 := fun z => e (by rw [z]; rfl)
    rw [if_neg w1] at hq
    rintro _ rfl
    refine lpG3 (fun N x y v => ∃ R G, R < 512 ∧ N ≤ m ∧ x = nI R ∧ y = mk G m ∧ v = nI N - 1 ∧ ∀ l, l < m → (G l || Dp a b N R l) = Dp a b m (2 ^ n - 1) l) ?_ (N := m) ⟨2 ^ n - 1, noB, by omega, Nat.le_refl _, rfl, (mk_0 m).symm, rfl, fun l _ => rfl⟩
    rintro rec8 N _ _ _ ⟨R, G, hR, hN, rfl, rfl, rfl, hG⟩ hrec8
    cases N with
    | zero =>
      refine br_t (by decide) ?_
      have : mk G m = mk (Dp a b m (2 ^ n - 1)) m := mk_cong (fun l hl => by
        rw [← hG l hl]
        show G l = (G l || false)
        rw [Bool.or_false])
      rw [this]; exact hq
    | succ k =>
      have ek : nI (k + 1) - 1 = nI k := by rw [show (1 : Int32) = nI 1 from rfl, z_sub (by omega)]; rfl
      have ek2 : nI k + (-1 : Int32) = nI k - 1 := (Int32.sub_eq_add_neg _ _).symm
      rw [ek]
      refine br_f (nI_nlt (a := k) (b := 0) (Nat.zero_le _) (by omega)) ?_
      refine sm_apartBy W (show k ≤ m by omega) hR (T k R (by omega) hR) ?_
      rw [nI_1 k]
      refine sm_apartBy W hN hR (T (k + 1) R hN hR) ?_
      have l1 := Ap_le (a := a) (b := b) k R
      have l2 := Ap_le (a := a) (b := b) (k + 1) R
      dsimp only [kk_j2]
      rw [ek2]
      refine ⟨fun z => ?_, fun z => ?_⟩
      · have z : ¬ Ap a b k R = Ap a b (k + 1) R := fun y => z (by rw [y])
        rintro _ rfl
        refine sm_without Mk W (show k < m by omega) hR ?_
        rw [mk_set (show k < m by omega) (by omega)]
        refine hrec8 k _ _ _ (by omega) ⟨_, ads G k, wo_lt, by omega, rfl, rfl, rfl, fun l hl => ?_⟩
        rw [← hG l hl]
        have : Dp a b (k + 1) R = ads (Dp a b k (wo a b k R)) k := if_neg z
        rw [this]
        unfold ads
        cases G l <;> cases decide (l = k) <;> cases Dp a b k (wo a b k R) l <;> rfl
      · have z := (nI_ne (by omega) (by omega)).mp z
        refine hrec8 k _ _ _ (by omega) ⟨R, G, hR, by omega, rfl, rfl, rfl, fun l hl => ?_⟩
        rw [← hG l hl]
        have : Dp a b (k + 1) R = Dp a b k R := if_pos z
        rw [this]
  · have w1 : w = 0 := (nI_ne (j := 0) (by omega) (by omega)).mp e
    rw [if_pos w1] at hq
    exact sm_apartBy W (Nat.le_refl _) (by omega) (T m _ (Nat.le_refl _) (by omega)) hq
end
theorem q_apart : pr_apart Rel := by
  rintro σ1 σ2 ⟨n, m, a, b, c, kp, ls, kf, gf, W, P, M, N, K, Z⟩ v1
  have same : Rel σ1 σ2 := ⟨n, m, a, b, c, kp, ls, kf, gf, W, P, M, N, K, Z⟩
  have hm := W.2.2.1
  have p20 : 2 ^ m ≤ 2 ^ 20 := Nat.pow_le_pow_right (by omega) hm
  unfold f_X10_apart
  dsimp only [kk_j0]
  refine ixbr' (k := 1) (by omega) (fun y => ?_) (fun y => ?_)
  · obtain ⟨w, hw, rfl⟩ := isIx_ex y
    obtain ⟨D1, D2, D3⟩ := Dp_ok W m (Nat.le_refl _) (2 ^ n - 1)
    have A4 := Ap_4 W
    refine sc_gatherAll N W (fun τ fr H => ?_)
    have cb : ∀ z, Mc m a b m noB z ≤ 2 ^ 20 := fun z => Nat.le_trans (Mc_le m noB z) p20
    have top : Ec m a b m noB noB (Ap a b m (2 ^ n - 1)) (mN (Dp a b m (2 ^ n - 1)) m) := (Ec_mat W).mpr ⟨_, D1, D2, rfl⟩
    have pos : 0 < Mc m a b m noB (Ap a b m (2 ^ n - 1)) := Nat.pos_of_ne_zero (fun z => (H _ (by omega)).2.1.mp z _ top)
    have over : ∀ z, z ≤ 4 → 0 < Mc m a b m noB z → z ≤ Ap a b m (2 ^ n - 1) := fun z hz h => by
      obtain ⟨X, _, x2, _⟩ := (H z hz).2.2 h
      obtain ⟨S, s1, s2, _⟩ := (Ec_mat W).mp x2
      have := (D3 S s1).1
      omega
    have most : ∀ R : Int32 → Prop, R (nI (Ap a b m (2 ^ n - 1))) → f_X0_most τ R := by
      intro R hR
      unfold f_X0_most
      refine lf_2_1 5 (by omega) (fun j x => ∃ u, x = nI u ∧ (∀ z, z < j → u < z → Mc m a b m noB z = 0) ∧ (u = 0 ∨ (u < j ∧ 0 < Mc m a b m noB u))) (Nat.zero_le _) ⟨0, rfl, fun _ h => absurd h (Nat.not_lt_zero _), Or.inl rfl⟩ ?_ ?_
      · rintro rec j _ hj ⟨u, rfl, u1, u2⟩ hrec
        refine br_f (nI_nlt (a := 4) (b := j) (by omega) (by omega)) ⟨vp_lt (by omega) (by omega), ?_⟩
        rw [rd_nI (by omega), (H j (by omega)).1]
        have := cb j
        dsimp only [kk_j1]
        rcases Nat.eq_zero_or_pos (Mc m a b m noB j) with z | z
        · rw [z]
          refine br_t (by decide) (hrec _ ⟨u, rfl, fun x hx hu => ?_, ?_⟩)
          · by_cases e : x = j
            · rw [e]; exact z
            · exact u1 x (by omega) hu
          · rcases u2 with x | ⟨x1, x2⟩
            · exact Or.inl x
            · exact Or.inr ⟨by omega, x2⟩
        · exact br_f (nI_ge (a := 0) (b := Mc m a b m noB j) z (by omega)) (hrec _ ⟨j, rfl, fun x hx hu => by omega, Or.inr ⟨by omega, z⟩⟩)
      · rintro rec _ ⟨u, rfl, u1, u2⟩
        refine br_t (nI_lt (a := 4) (b := 5) (by omega) (by omega)) ?_
        have : u = Ap a b m (2 ^ n - 1) := by
          rcases Nat.lt_trichotomy u (Ap a b m (2 ^ n - 1)) with x | x | x
          · have := u1 _ (by omega) x
            omega
          · exact x
          · rcases u2 with y | ⟨y1, y2⟩
            · omega
            · have := over u (by omega) y2
              omega
        rw [this]; exact hR
    refine most _ ?_
    have fin : ∀ τ2, frF [21] [] σ2 τ2 → Rel τ τ2 := fun τ2 fr2 => ⟨n, m, a, b, c, kp, ls, kf, gf, W, P, RM_fr M fr2 (by simp) (by simp), RN_fr N fr (by simp), RK_fr K fr (by simp), Rest_fr Z fr fr2 (by simp) (by simp) (by simp)⟩
    dsimp only [kk_j1]
    refine ⟨fun e => ⟨vp_lt (by omega) (by omega), ?_⟩, fun e => ?_⟩
    · have w1 : ¬ w = 0 := fun z => e (by rw [z]; rfl)
      refine sm_apart M W hw (fun τ2 fr2 => ⟨?_, fin τ2 fr2⟩)
      rw [if_neg w1, rd_nI (by omega)]
      obtain ⟨X, x1, x2, x3⟩ := (H _ (by omega)).2.2 pos
      obtain ⟨S, s1, s2, s3⟩ := (Ec_mat W).mp x2
      have g1 := x3 _ top
      have g2 := (D3 S s1).2 s2
      rw [x1, show X = mN (Dp a b m (2 ^ n - 1)) m by omega]
      rfl
    · have w1 : w = 0 := (nI_ne (j := 0) (by omega) (by omega)).mp e
      refine sm_apart M W hw (fun τ2 fr2 => ⟨?_, fin τ2 fr2⟩)
      rw [if_pos w1]
  · unfold f_X11_apart
    refine sp_in ?_
    rw [ix2, y]
    exact jn_f rfl ⟨rfl, same⟩
