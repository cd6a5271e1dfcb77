/-! pair: turns -/
def blw (m : Nat) (e : Nat → Int32) (k : Nat) : Prop := ∀ l, l < m → ∃ q, q < k ∧ e l = nI q
section
variable {n m : Nat} {a b : Nat → Nat} {c : Nat → Int32} {σ : kk_St}
theorem sc_allBelow (N : RN n m a b σ) (hm : m ≤ 20) {A k : Nat} {e : Nat → Int32} (hk4 : k ≤ 4) (hA : ∀ l, l < m → σ.1 A l = e l) (he : ∀ l, l < m → e l = -1 ∨ ∃ q, q < 9 ∧ e l = nI q) {Q : Int32 → Prop} (h1 : blw m e k → Q 1) (h0 : ¬ blw m e k → Q 0) : f_X10_areAllBelow A 20 (nI k) σ Q := by
  unfold f_X10_areAllBelow
  dsimp only [kk_j0]
  refine lf_1_0 m (by omega) (fun l => ∀ j, j < l → ∃ q, q < k ∧ e j = nI q) (Nat.zero_le _) (fun _ h => absurd h (Nat.not_lt_zero _)) ?_ ?_
  · rintro rec l hl i1 hrec
    rw [N.2.1]
    refine br_f (nI_ge hl (by omega)) ⟨vp_lt (by omega) (by omega), ?_⟩
    rw [rd_nI (by omega), hA l hl]
    rcases he l hl with z | ⟨q, hq, z⟩
    · refine br_t z (h0 (fun y => ?_))
      obtain ⟨u, u1, u2⟩ := y l hl
      rw [z] at u2
      exact nI_ne_m1 (by omega) u2.symm
    · rw [z]
      refine br_f (nI_ne_m1 (by omega)) ⟨vp_lt (by omega) (by omega), ?_⟩
      rcases Nat.lt_or_ge q k with g | g
      · refine br_t (nI_lt g (by omega)) (hrec (fun j hj => ?_))
        by_cases y : j = l
        · rw [y]; exact ⟨q, g, z⟩
        · exact i1 j (by omega)
      · refine br_f (nI_nlt g (by omega)) (h0 (fun y => ?_))
        obtain ⟨u, u1, u2⟩ := y l hl
        rw [z] at u2
        have := (nI_ne (by omega) (by omega)).mp u2
        omega
  · rintro rec i1
    rw [N.2.1]
    exact br_t (nI_le (Nat.le_refl _) (by omega)) (h1 i1)
theorem sm_below (M : RM n m a b c σ) (hm : m ≤ 20) {A k : Nat} {e : Nat → Int32} (hk : 1 ≤ k) (hk4 : k ≤ 4) (hA : ∀ l, l < m → σ.1 A l = e l) (he : ∀ l, l < m → e l = -1 ∨ ∃ q, q < 9 ∧ e l = nI q) {Q : Int32 → Prop} (h1 : blw m e k → Q 1) (h0 : ¬ blw m e k → Q 0) : f_X11_areBelow A 20 (nI k) σ Q := by
  unfold f_X11_areBelow
  refine lf_1_0 m (by omega) (fun l => ∀ j, j < l → ∃ q, q < k ∧ e j = nI q) (Nat.zero_le _) (fun _ h => absurd h (Nat.not_lt_zero _)) ?_ ?_
  · rintro rec l hl i1 hrec
    rw [M.2.1]
    refine br_f (nI_ge hl (by omega)) ⟨vp_lt (by omega) (by omega), ?_⟩
    rw [rd_nI (by omega), hA l hl]
    refine sp_in ?_
    rw [isIx_in (by omega)]
    rcases he l hl with z | ⟨q, hq, z⟩
    · have : isIx (e l) k = false := by
        cases y : isIx (e l) k with
        | false => rfl
        | true =>
          obtain ⟨u, u1, u2⟩ := isIx_ex y
          rw [z] at u2
          exact absurd u2.symm (nI_ne_m1 (by omega))
      rw [this]
      refine jn_f rfl (h0 (fun y => ?_))
      obtain ⟨u, u1, u2⟩ := y l hl
      rw [z] at u2
      exact nI_ne_m1 (by omega) u2.symm
    · rw [z]
      rcases Nat.lt_or_ge q k with g | g
      · rw [isIx_lt (by omega) g]
        refine jn_t (by decide) (hrec (fun j hj => ?_))
        by_cases y : j = l
        · rw [y]; exact ⟨q, g, z⟩
        · exact i1 j (by omega)
      · rw [isIx_nI (by omega), decide_eq_false (by omega)]
        refine jn_f rfl (h0 (fun y => ?_))
        obtain ⟨u, u1, u2⟩ := y l hl
        rw [z] at u2
        have := (nI_ne (by omega) (by omega)).mp u2
        omega
  · rintro rec i1
    rw [M.2.1]
    exact br_t (nI_le (Nat.le_refl _) (by omega)) (h1 i1)
theorem blw_x {e : Nat → Int32} {k : Nat} (hk4 : k ≤ 4) (h : blw m e k) : ∀ l, l < m → e l = nI ((e l).toNatClampNeg) ∧ (e l).toNatClampNeg < k := fun l hl => by
  obtain ⟨q, q1, q2⟩ := h l hl
  rw [q2, nI_clamp (by omega)]
  exact ⟨rfl, q1⟩
end
theorem q_turns : pr_turns Rel := by
  rintro σ1 σ2 ⟨n, m, a, b, c, kp, ls, kf, gf, W, P, M, N, K, Z⟩ v1
  have same : Rel σ1 σ2 := ⟨n, m, a, b, c, kp, ls, kf, gf, W, P, M, N, K, Z⟩
  have hm20 := W.2.2.1
  have bad : ∀ {Q : Int32 → kk_St → Prop}, ¬ (1 ≤ v1 ∧ v1 ≤ 4) → Q (-1) σ2 → f_X11_turns v1 σ2 Q := by
    intro Q hb q
    unfold f_X11_turns
    refine sp_in ?_
    rw [if_neg hb]
    dsimp only [kk_j0]
    exact br_t rfl q
  unfold f_X10_turns
  dsimp only [kk_j0]
  refine ⟨fun z => bad (fun y => nlt1.mpr y.1 z) ⟨rfl, same⟩, fun z => ⟨fun y => bad (fun x => nlt4.mpr x.2 y) ⟨rfl, same⟩, fun y => ?_⟩⟩
  have hin : 1 ≤ v1 ∧ v1 ≤ 4 := ⟨nlt1.mp z, nlt4.mp y⟩
  obtain ⟨k, k1, k4, rfl⟩ := rng14 hin
  have no : ∀ {Q : Int32 → kk_St → Prop}, (kf = false ∨ 6 < m) → Q (-1) σ2 → f_X11_turns (nI k) σ2 Q := by
    intro Q hb q
    unfold f_X11_turns
    refine sp_in ?_
    rw [if_pos hin, Z.1.2.1, M.2.1]
    dsimp only [kk_j0]
    refine br_f (by decide) (bI_zn (fun _ => q) (fun hf => ?_))
    rcases hb with hb | hb
    · rw [hb] at hf; cases hf
    · exact br_t (nI_lt (a := 6) (b := m) hb (by omega)) q
  rw [Z.1.1, N.2.1]
  refine bI_zn (fun hf => no (Or.inl hf) ⟨rfl, same⟩) (fun hf => ?_)
  rcases Nat.lt_or_ge 6 m with g | g
  · exact br_f (nI_ge (a := 6) (b := m) g (by omega)) (no (Or.inr g) ⟨rfl, same⟩)
  refine br_t (nI_le (a := m) (b := 6) g (by omega)) ?_
  obtain ⟨Pk, Zk, _⟩ := Z.1.2.2 hf
  have kp9 := Pr9 W Pk
  have c9 := Pr9 W P
  have mod : ∀ {Q : Int32 → kk_St → Prop}, (¬ blw m kp k → Q (-1) σ2) → (¬ blw m c k → Q (-1) σ2) → (blw m kp k → blw m c k → ∀ t τ, frF [18, 19, 20] [9] σ2 τ → rea m a b k t (fun l => (kp l).toNatClampNeg) (fun l => (c l).toNatClampNeg) → (∀ s, s < t → ¬ rea m a b k s (fun l => (kp l).toNatClampNeg) (fun l => (c l).toNatClampNeg)) → Q (nI t) τ) → (blw m kp k → blw m c k → ∀ τ, frF [18, 19, 20] [9] σ2 τ → (∀ s, ¬ rea m a b k s (fun l => (kp l).toNatClampNeg) (fun l => (c l).toNatClampNeg)) → Q (-2) τ) → f_X11_turns (nI k) σ2 Q := by
    intro Q q1 q2 q3 q4
    have T4 : k ^ m ≤ 4096 := kp_le g k4
    unfold f_X11_turns
    refine sp_in ?_
    rw [if_pos hin, Z.1.2.1, M.2.1, hf]
    dsimp only [kk_j0]
    refine br_f (by decide) (br_f (by decide) (br_f (nI_nlt (a := 6) (b := m) g (by omega)) ?_))
    refine sm_below M hm20 k1 k4 (fun l hl => (Zk l hl).2) kp9 (fun b1 => br_f (by decide) ?_) (fun b1 => br_t rfl (q1 b1))
    refine sm_below M hm20 k1 k4 M.2.2.2.2 c9 (fun b2 => jn_t (by decide) ?_) (fun b2 => jn_f rfl (q2 b2))
    have xk := blw_x k4 b1
    have yk := blw_x k4 b2
    have cx := en_lt (B := k) (x := fun l => (kp l).toNatClampNeg) (m := m) (fun l hl => (xk l hl).2)
    have cy := en_lt (B := k) (x := fun l => (c l).toNatClampNeg) (m := m) (fun l hl => (yk l hl).2)
    have dx := en_dgt (B := k) (x := fun l => (kp l).toNatClampNeg) (m := m) (by omega) (fun l hl => (xk l hl).2)
    have dy := en_dgt (B := k) (x := fun l => (c l).toNatClampNeg) (m := m) (by omega) (fun l hl => (yk l hl).2)
    refine sm_zero M W g k4 (T := k ^ m) rfl ?_ ?_
    · intro rec i τ hi fr hrec
      refine sm_codes (RM_fr M fr (by simp) (by simp)) W ?_
      refine br_f (nI_ge hi (by omega)) ⟨vp_lt (by omega) (by omega), ?_⟩
      rintro _ rfl
      rw [nI_clamp (by omega)]
      exact hrec _ (frF_w fr (by simp) (by decide)) (wr_at _ _ _ _)
    intro rec τ0 fr0 K0
    have M0 := RM_fr M fr0 (by simp) (by simp)
    refine sm_codes M0 W ?_
    refine br_t (nI_le (Nat.le_refl _) (by omega)) ?_
    refine sm_codeOf M0 W (x := fun l => (kp l).toNatClampNeg) (fun l hl => by rw [fr0.1 5 (by simp) (by decide), (Zk l hl).2]; exact (xk l hl).1) ?_
    refine sm_spreads M0 W g k1 k4 rfl cx K0 rfl (Old := noB) (fun d _ => ⟨fun z => absurd rfl z, fun z => by cases z⟩) (fun _ _ => Nat.zero_le _) (fun τ2 q last kd fr2 K2 B _ => ?_)
    have f2 : frF [18, 19, 20] [9] σ2 τ2 := frF_tr (frF_mono fr0 (by simp) (by simp)) fr2
    have M2 := RM_fr M f2 (by simp) (by simp)
    refine sm_codeOf M2 W (x := fun l => (c l).toNatClampNeg) (fun l hl => by rw [M2.2.2.2.2 l hl]; exact (yk l hl).1) ⟨vp_lt (by omega) (by omega), ?_⟩
    have all := BF_all k1 rfl cx B (fun _ _ h => by cases h)
    have mk' := BF_mark B _ cy
    dsimp only [kk_j1]
    rw [rd_nI (by omega), K2 _ cy]
    have eq : ∀ t, rea m a b k t (dgt k (en k (fun l => (kp l).toNatClampNeg) m)) (dgt k (en k (fun l => (c l).toNatClampNeg) m)) ↔ rea m a b k t (fun l => (kp l).toNatClampNeg) (fun l => (c l).toNatClampNeg) := fun t => ⟨rea_cong dx dy, rea_cong (fun l hl => (dx l hl).symm) (fun l hl => (dy l hl).symm)⟩
    have low : ∀ s, rea m a b k s (fun l => (kp l).toNatClampNeg) (fun l => (c l).toNatClampNeg) → kd (en k (fun l => (c l).toNatClampNeg) m) ≠ 0 ∧ kd (en k (fun l => (c l).toNatClampNeg) m) ≤ s + 1 := fun s hs => by
      obtain ⟨h1, h2⟩ := all s _ cy ((eq s).mpr hs)
      exact ⟨h1, h2 (fun _ => rfl)⟩
    by_cases z0 : kd (en k (fun l => (c l).toNatClampNeg) m) = 0
    · rw [z0]
      exact jn_f rfl (q4 b1 b2 τ2 f2 (fun s hs => (low s hs).1 z0))
    · rcases mk' z0 with u | ⟨_, u1, u2⟩
      · cases u
      · refine jn_t (fun y => z0 ((nI_ne (j := 0) (by omega) (by omega)).mp y)) ?_
        rw [show (1 : Int32) = nI 1 from rfl, z_sub (by omega)]
        refine q3 b1 b2 _ τ2 f2 ((eq _).mp u2) (fun s hs hr => ?_)
        have := (low s hr).2
        omega
  have fin : ∀ τ, frL [10, 27, 28, 29, 30] σ1 τ → ∀ τ2, frF [18, 19, 20] [9] σ2 τ2 → Rel τ τ2 := fun τ fr τ2 fr2 => ⟨n, m, a, b, c, kp, ls, kf, gf, W, P, RM_fr M fr2 (by simp) (by simp), RN_fr N fr (by simp), RK_fr K fr (by simp), Rest_fr Z fr fr2 (by simp) (by simp) (by simp)⟩
  refine sc_allBelow N hm20 k4 (fun l hl => (Zk l hl).1) kp9 (fun b1 => br_f (by decide) ?_) (fun b1 => br_t rfl (mod (fun _ => ⟨rfl, same⟩) (fun _ => ⟨rfl, same⟩) (fun b => absurd b b1) (fun b => absurd b b1)))
  refine sc_allBelow (e := c) N hm20 k4 (fun l hl => by rw [K.1 l (by omega), if_pos hl]) c9 (fun b2 => jn_t (by decide) ?_) (fun b2 => jn_f rfl (mod (fun _ => ⟨rfl, same⟩) (fun _ => ⟨rfl, same⟩) (fun _ b => absurd b b2) (fun _ b => absurd b b2)))
  have xk := blw_x k4 b1
  have yk := blw_x k4 b2
  refine sc_turns N W g k4 (x := fun l => (kp l).toNatClampNeg) (y := fun l => (c l).toNatClampNeg) (by decide) (by decide) (fun l hl => by rw [(Zk l hl).1]; exact (xk l hl).1) (fun l hl => (xk l hl).2) (fun l hl => by rw [K.1 l (by omega), if_pos hl]; exact (yk l hl).1) (fun l hl => (yk l hl).2) (fun t τ fr hr mn _ => ?_) (fun τ fr hno => ?_)
  · refine mod (fun b => absurd b1 b) (fun b => absurd b2 b) (fun _ _ t' τ2 fr2 hr' mn' => ⟨?_, fin τ fr τ2 fr2⟩) (fun _ _ τ2 _ hno => absurd hr (hno t))
    rcases Nat.lt_trichotomy t t' with e | e | e
    · exact absurd hr (mn' t e)
    · rw [e]
    · exact absurd hr' (mn t' e)
  · exact mod (fun b => absurd b1 b) (fun b => absurd b2 b) (fun _ _ t' _ _ hr' _ => absurd hr' (hno t')) (fun _ _ τ2 fr2 _ => ⟨rfl, fin τ fr τ2 fr2⟩)
