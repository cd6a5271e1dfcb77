/-! pairs: kinds turns -/
theorem rng14 {v : Int32} (h : 1 ≤ v ∧ v ≤ 4) : ∃ k, 1 ≤ k ∧ k ≤ 4 ∧ v = nI k := by
  have e1 := Int32.le_iff_toInt_le.mp h.1
  have e2 := Int32.le_iff_toInt_le.mp h.2
  have f1 : (1 : Int32).toInt = 1 := rfl
  have f4 : (4 : Int32).toInt = 4 := rfl
  have ix : isIx v 5 = true := by
    unfold isIx
    rw [decide_eq_true (show 0 ≤ v.toInt by omega), decide_eq_true (show v.toInt < ((5 : Nat) : Int) by omega)]; rfl
  obtain ⟨k, hk, rfl⟩ := isIx_ex ix
  rw [nI_toInt (show k < 2 ^ 31 by omega)] at e1
  exact ⟨k, by omega, by omega, rfl⟩
theorem nlt1 {v : Int32} : ¬ v < 1 ↔ 1 ≤ v := by
  rw [Int32.lt_iff_toInt_lt, Int32.le_iff_toInt_le]
  omega
theorem nlt4 {v : Int32} : ¬ 4 < v ↔ v ≤ 4 := by
  rw [Int32.lt_iff_toInt_lt, Int32.le_iff_toInt_le]
  omega
section
variable {n m : Nat} {a b : Nat → Nat} {c : Nat → Int32} {σ : kk_St}
theorem sm_zero (M : RM n m a b c σ) (W : Wf n m a b) (hm : m ≤ 6) {k T : Nat} (hk4 : k ≤ 4) (hT : T = k ^ m) {F : (Int32 → kk_St → Prop) → Int32 → kk_St → Prop} (hs : ∀ rec i τ, i < T → frF [19] [] σ τ → (∀ τ', frF [19] [] σ τ' → τ'.1 19 = upd (τ.1 19) i 0 → rec (nI i + 1) τ') → F rec (nI i) τ) (hx : ∀ rec τ, frF [19] [] σ τ → KDc T (fun _ => 0) τ → F rec (nI T) τ) : kk_lp2 F 0 σ := by
  have T4 : T ≤ 4096 := by rw [hT]; exact kp_le hm hk4
  refine lf_2_0 T (by omega) (fun i τ => frF [19] [] σ τ ∧ ∀ d, d < i → τ.1 19 d = 0) (k0 := 0) (Nat.zero_le _) ⟨frF_rf, fun _ h => absurd h (Nat.not_lt_zero _)⟩ ?_ ?_
  · rintro rec i τ hi ⟨fr, i1⟩ hrec
    refine hs rec i τ hi fr (fun τ' fr' e => hrec _ ⟨fr', fun d hd => ?_⟩)
    rw [e, upd_if]
    by_cases y : d = i
    · rw [if_pos y]
    · rw [if_neg y]; exact i1 d (by omega)
  · rintro rec τ ⟨fr, i1⟩
    exact hx rec τ fr (fun d hd => i1 d hd)
theorem sm_kinds (M : RM n m a b c σ) (W : Wf n m a b) (hm : m ≤ 6) {k T : Nat} (hk : 1 ≤ k) (hk4 : k ≤ 4) (hT : T = k ^ m) {Q : Int32 → kk_St → Prop} (h : ∀ τ Rp, frF [18, 19, 20] [9] σ τ → REP m a b k k T Rp → Q (nI (fb_ct Rp T)) τ) : f_X11_kinds (nI k) σ Q := by
  have T4 : T ≤ 4096 := by rw [hT]; exact kp_le hm hk4
  unfold f_X11_kinds
  refine sp_in ?_
  rw [if_pos ⟨nI_le (a := 1) (b := k) hk (by omega), nI_le (a := k) (b := 4) hk4 (by omega)⟩, M.2.1]
  refine jn_t (by decide) (br_t (nI_le (a := m) (b := 6) hm (by omega)) ?_)
  refine sm_zero M W hm hk4 hT ?_ ?_
  · intro rec i τ hi fr hrec
    refine sm_codes (RM_fr M fr (by simp) (by simp)) W ?_
    rw [← hT]
    refine br_f (nI_ge hi (by omega)) ⟨vp_lt (by omega) (by omega), ?_⟩
    rintro _ rfl
    rw [nI_clamp (by omega)]
    exact hrec _ (frF_w fr (by simp) (by decide)) (wr_at _ _ _ _)
  intro rec τ0 fr0 K0
  refine sm_codes (RM_fr M fr0 (by simp) (by simp)) W ?_
  rw [← hT]
  refine br_t (nI_le (Nat.le_refl _) (by omega)) ?_
  refine lf_3_1 T (by omega) (fun i v τ => frF [18, 19, 20] [9] σ τ ∧ ∃ (kd : Nat → Nat) (Rp : Nat → Bool), KDc T kd τ ∧ (∀ d, d < T → kd d ≤ 5000) ∧ v = nI (fb_ct Rp T) ∧ (∀ d, d < T → (kd d ≠ 0 ↔ ∃ r, r < T ∧ Rp r = true ∧ RF m a b k (dgt k r) (dgt k d))) ∧ (∀ r r', r < T → r' < T → Rp r = true → Rp r' = true → RF m a b k (dgt k r) (dgt k r') → r = r') ∧ (∀ r, r < T → Rp r = true → prp m a b m (dgt k r)) ∧ ∀ d, d < i → prp m a b m (dgt k d) → kd d ≠ 0) (Nat.zero_le _) ⟨frF_mono fr0 (by simp) (by simp), fun _ => 0, noB, K0, fun _ _ => Nat.zero_le _, by rw [fb_ct_zero (p := noB).mpr (fun _ _ => rfl)]; rfl, fun d _ => ⟨fun z => absurd rfl z, fun ⟨r, _, z, _⟩ => (by cases z)⟩, fun _ _ _ _ z => (by cases z), fun _ _ z => (by cases z), fun _ h => absurd h (Nat.not_lt_zero _)⟩ ?_ ?_
  · rintro rec9 i _ τ hi ⟨fr, kd, Rp, K1, kb, rfl, r1, r2, r3, cov⟩ hrec9
    have Mk := RM_fr M fr (by simp) (by simp)
    refine sm_codes Mk W ?_
    rw [← hT]
    refine br_f (nI_ge hi (by omega)) ?_
    refine sm_laysTrial Mk W hk hk4 (by omega) (fun τ1 g1 t1 => ⟨vp_lt (by omega) (by omega), ?_⟩)
    have f1 : frF [18, 19, 20] [9] σ τ1 := frF_tr fr (frF_mono g1 (by simp) (by simp))
    have M1 := RM_fr M f1 (by simp) (by simp)
    have e19 : τ1.1 19 = τ.1 19 := g1.1 19 (by simp) (by decide)
    have K2 : KDc T kd τ1 := fun d hd => by rw [e19]; exact K1 d hd
    rw [rd_nI (by omega), K2 i hi]
    dsimp only [kk_j2]
    have keep : (prp m a b m (dgt k i) → kd i ≠ 0) → rec9 (nI (fb_ct Rp T)) (nI i + 1) τ1 := fun g => hrec9 _ _ ⟨f1, kd, Rp, K2, kb, rfl, r1, r2, r3, fun d hd => by
      by_cases y : d = i
      · rw [y]; exact g
      · exact cov d (by omega)⟩
    constructor
    · intro z
      exact keep (fun _ y => z (by rw [y]; rfl))
    · intro z
      have z : kd i = 0 := (nI_ne (j := 0) (by have := kb i hi; omega) (by omega)).mp z
      refine sm_isTrialFit M1 W (x := dgt k i) (fun l _ => by have := dgt_lt (B := k) (c := i) (l := l) (by omega); omega) t1 (fun pr => jn_t (by decide) ?_) (fun npr => jn_f rfl (keep (fun pr => absurd pr npr)))
      have ho : ∀ d, d < T → (kd d ≠ 0 ↔ decide (kd d ≠ 0) = true) := fun d _ => by simp
      have hcl : ∀ d, d < T → decide (kd d ≠ 0) = true → ∀ e, e < T → tsp m a b k (dgt k d) (dgt k e) → decide (kd e ≠ 0) = true := fun d hd hx e he hs => by
        obtain ⟨r, y1, y2, y3⟩ := (r1 d hd).mp (of_decide_eq_true hx)
        exact decide_eq_true ((r1 e he).mpr ⟨r, y1, y2, RF_tr y3 (RF_st hs)⟩)
      refine sm_spreads M1 W hm hk hk4 hT hi K2 z (Old := fun d => decide (kd d ≠ 0)) ho kb (fun τ2 q last kd' g2 K3 B O => ?_)
      have all := BF_all hk hT hi B hcl
      have mk' := BF_mark B
      have ri : Rp i = false := by
        cases y : Rp i with
        | false => rfl
        | true => exact absurd z ((r1 i hi).mpr ⟨i, hi, y, RF_rf⟩)
      have ad : ∀ r, ads Rp i r = true ↔ Rp r = true ∨ r = i := fun r => by unfold ads; simp
      have new : ∀ d, d < T → (kd' d ≠ 0 ↔ kd d ≠ 0 ∨ RF m a b k (dgt k i) (dgt k d)) := fun d hd => by
        constructor
        · intro y
          rcases mk' d hd y with u | ⟨_, _, u⟩
          · exact Or.inl (of_decide_eq_true u)
          · exact Or.inr ⟨_, u⟩
        · rintro (y | ⟨t, y⟩)
          · exact (B.2.2.1 d hd).2 (decide_eq_true y)
          · exact (all t d hd y).1
      rw [nI_1 (fb_ct Rp T), ← ct_ads ri hi]
      refine hrec9 _ _ ⟨frF_tr f1 g2, kd', ads Rp i, K3, fun d hd => ?_, rfl, fun d hd => ?_, fun r r' hr hr' y1 y2 hrf => ?_, fun r hr y => ?_, fun d hd hpd => ?_⟩
      · by_cases y : kd' d = 0
        · omega
        · rcases mk' d hd y with u | ⟨_, u, _⟩
          · rw [O d hd u]; exact kb d hd
          · omega
      · rw [new d hd, r1 d hd]
        constructor
        · rintro (⟨r, y1, y2, y3⟩ | y)
          · exact ⟨r, y1, (ad r).mpr (Or.inl y2), y3⟩
          · exact ⟨i, hi, (ad i).mpr (Or.inr rfl), y⟩
        · rintro ⟨r, y1, y2, y3⟩
          rcases (ad r).mp y2 with u | u
          · exact Or.inl ⟨r, y1, u, y3⟩
          · rw [u] at y3; exact Or.inr y3
      · rcases (ad r).mp y1 with u | u
        · rcases (ad r').mp y2 with v | v
          · exact r2 r r' hr hr' u v hrf
          · rw [v] at hrf
            exact absurd z ((r1 i hi).mpr ⟨r, hr, u, hrf⟩)
        · rcases (ad r').mp y2 with v | v
          · rw [u] at hrf
            exact absurd z ((r1 i hi).mpr ⟨r', hr', v, RF_sy hrf⟩)
          · rw [u, v]
      · rcases (ad r).mp y with u | u
        · exact r3 r hr u
        · rw [u]; exact pr
      · by_cases y : d = i
        · rw [y]; exact (new i hi).mpr (Or.inr RF_rf)
        · exact (new d (by omega)).mpr (Or.inl (cov d (by omega) hpd))
  · rintro rec9 _ τ ⟨fr, kd, Rp, K1, kb, rfl, r1, r2, r3, cov⟩
    have Mk := RM_fr M fr (by simp) (by simp)
    refine sm_codes Mk W ?_
    rw [← hT]
    refine br_t (nI_le (Nat.le_refl _) (by omega)) (h τ Rp fr ⟨r2, fun r hr y => ⟨fun l _ => dgt_lt (by omega), r3 r hr y⟩, fun y h1 h2 => ?_⟩)
    have ey := en_lt h1
    have dy := en_dgt (by omega) h1
    rw [← hT] at ey
    obtain ⟨r, y1, y2, y3⟩ := (r1 _ ey).mp (cov _ ey (fun u v hu hv hmt => by rw [dy u hu, dy v hv]; exact h2 u v hu hv hmt))
    exact ⟨r, y1, y2, RF_cong (fun _ _ => rfl) dy y3⟩
theorem rep_eq {k T M : Nat} {R4 Rk : Nat → Bool} (h4 : REP m a b k 4 M R4) (hk : REP m a b k k T Rk) : fb_ct R4 M = fb_ct Rk T := by
  have l1 := ct_rep (X := R4) (Y := Rk) (N := M) (M := T) (d := dgt 4) (e := dgt k) (fun i hi hx => by
    obtain ⟨p1, p2⟩ := h4.2.1 i hi hx
    obtain ⟨r, y1, y2, y3⟩ := hk.2.2 (dgt 4 i) p1 p2
    exact ⟨r, y1, y2, RF_sy y3⟩) (fun i i' hi hi' x1 x2 hr => h4.1 i i' hi hi' x1 x2 hr)
  have l2 := ct_rep (X := Rk) (Y := R4) (N := T) (M := M) (d := dgt k) (e := dgt 4) (fun i hi hx => by
    obtain ⟨p1, p2⟩ := hk.2.1 i hi hx
    obtain ⟨r, y1, y2, y3⟩ := h4.2.2 (dgt k i) p1 p2
    exact ⟨r, y1, y2, RF_sy y3⟩) (fun i i' hi hi' x1 x2 hr => hk.1 i i' hi hi' x1 x2 hr)
  omega
end
theorem q_kinds : pr_kinds Rel := by
  rintro σ1 σ2 ⟨n, m, a, b, c, kp, ls, kf, gf, W, P, M, N, K, Z⟩ v1
  have same : Rel σ1 σ2 := ⟨n, m, a, b, c, kp, ls, kf, gf, W, P, M, N, K, Z⟩
  have hm20 := W.2.2.1
  have bad : ∀ {Q : Int32 → kk_St → Prop}, ¬ (1 ≤ v1 ∧ v1 ≤ 4) → Q (-1) σ2 → f_X11_kinds v1 σ2 Q := by
    intro Q hb q
    unfold f_X11_kinds
    refine sp_in ?_
    rw [if_neg hb]
    exact jn_f rfl q
  unfold f_X10_kinds
  dsimp only [kk_j0]
  refine ⟨fun z => bad (fun y => nlt1.mpr y.1 z) ⟨rfl, same⟩, fun z => ⟨fun y => ?_, fun y => bad (fun x => y x.2) ⟨rfl, same⟩⟩⟩
  obtain ⟨k, k1, k4, rfl⟩ := rng14 ⟨nlt1.mp z, y⟩
  dsimp only [kk_j2]
  rw [N.2.1]
  rcases Nat.lt_or_ge 6 m with g | g
  · refine br_f (nI_ge (a := 6) (b := m) g (by omega)) ?_
    unfold f_X11_kinds
    refine sp_in ?_
    rw [if_pos ⟨nlt1.mp z, y⟩, M.2.1]
    exact jn_t (by decide) (br_f (nI_ge (a := 6) (b := m) g (by omega)) ⟨rfl, same⟩)
  · refine br_t (nI_le (a := m) (b := 6) g (by omega)) ?_
    obtain ⟨B, hB⟩ : ∃ B, B = 4096 := ⟨_, rfl⟩
    refine sc_kinds N W g k4 hB (fun τ R4 fr h4 => ?_)
    refine sm_kinds M W g k1 k4 rfl (fun τ2 Rk fr2 hk => ⟨by rw [rep_eq h4 hk], ?_⟩)
    exact ⟨n, m, a, b, c, kp, ls, kf, gf, W, P, RM_fr M fr2 (by simp) (by simp), RN_fr N fr (by simp), RK_fr K fr (by simp), Rest_fr Z fr fr2 (by simp) (by simp) (by simp)⟩
