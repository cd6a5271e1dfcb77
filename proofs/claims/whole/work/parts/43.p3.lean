/-! pairs: back, unlike, begin, line -/
theorem sc_countUnlike {n m : Nat} {a b : Nat → Nat} {c kp : Nat → Int32} {σ : kk_St} (N : RN n m a b σ) (K : RK m c σ) (hm : m ≤ 20) (hk31 : ∀ k, k < m → σ.1 31 k = kp k) {Q : Int32 → Prop} (h : Q (nI (fb_ct (fun k => !decide (kp k = c k)) m))) : f_X10_countUnlike σ Q := by
  unfold f_X10_countUnlike
  refine lf_2_1 m (by omega) (fun k x => x = nI (fb_ct (fun k => !decide (kp k = c k)) k)) (Nat.zero_le _) rfl ?_ ?_
  · rintro rec k x hk rfl hrec
    refine br_f (by rw [N.2.1]; exact nI_ge hk (by omega)) ⟨vp_lt (by omega) (by omega), vp_lt (by omega) (by omega), ?_⟩
    dsimp only [kk_j1]
    rw [rd_nI (by omega), rd_nI (by omega), hk31 k hk, K.1 k (by omega), if_pos hk]
    by_cases he : kp k = c k
    · refine br_t he (hrec _ ?_)
      rw [fb_ct_succ, decide_eq_true he]; simp
    · refine br_f he (hrec _ ?_)
      rw [fb_ct_succ, decide_eq_false he, nI_1]; simp
  · rintro rec x rfl
    exact br_t (by rw [N.2.1]; exact nI_le (Nat.le_refl _) (by omega)) h
theorem sm_unlikeMany {n m : Nat} {a b : Nat → Nat} {c kp : Nat → Int32} {σ : kk_St} (M : RM n m a b c σ) (hm : m ≤ 20) (hk5 : ∀ k, k < m → σ.1 5 k = kp k) {Q : Int32 → Prop} (h : Q (nI (fb_ct (fun k => !decide (kp k = c k)) m))) : f_X11_unlikeMany σ Q := by
  unfold f_X11_unlikeMany
  refine lf_2_1 m (by omega) (fun k x => x = nI (fb_ct (fun k => !decide (kp k = c k)) k)) (Nat.zero_le _) rfl ?_ ?_
  · rintro rec k x hk rfl hrec
    refine br_f (by rw [M.2.1]; exact nI_ge hk (by omega)) ⟨vp_lt (by omega) (by omega), vp_lt (by omega) (by omega), ?_⟩
    dsimp only [kk_j1]
    rw [rd_nI (by omega), rd_nI (by omega), hk5 k hk, M.2.2.2.2 k hk]
    by_cases he : kp k = c k
    · refine br_t he (hrec _ ?_)
      rw [fb_ct_succ, decide_eq_true he]; simp
    · refine br_f he (hrec _ ?_)
      rw [fb_ct_succ, decide_eq_false he, nI_1]; simp
  · rintro rec x rfl
    exact br_t (by rw [M.2.1]; exact nI_le (Nat.le_refl _) (by omega)) h
theorem q_back : pr_back Rel := by
  rintro σ1 σ2 ⟨n, m, a, b, c, kp, ls, kf, gf, W, P, M, N, K, Z⟩ _
  have hm := W.2.2.1
  have same : Rel σ1 σ2 := ⟨n, m, a, b, c, kp, ls, kf, gf, W, P, M, N, K, Z⟩
  have Z' := Z
  obtain ⟨⟨z1, z1', z1''⟩, z2, z3, z4⟩ := Z
  unfold f_X10_back
  rw [z1]
  refine bI_nz (fun h1 => ?_) (fun h1 => ?_)
  · obtain ⟨Pk, kk1, kk2⟩ := z1'' h1
    have hD := Dg_le8 W
    refine sc_countUnlike N K hm (fun k hk => (kk1 k hk).1) ?_
    refine sc_clear hm (fun τ0 K0 F0 => ?_)
    have N0 : RN n m a b τ0 := RN_fr N F0 (by simp)
    have c9 : ∀ x : Nat, ∀ k, k < m → (if k < x then kp k else -1) = (-1 : Int32) ∨ ∃ q, q < 9 ∧ (if k < x then kp k else -1) = nI q := by
      intro x k hk
      split
      · exact Pr9 W Pk k hk
      · exact Or.inl rfl
    refine lf_2_0 m (by omega) (fun k τ => RK m (fun j => if j < k then kp j else -1) τ ∧ frL [16, 17] σ1 τ) (Nat.zero_le _) ⟨RK_cong K0 (fun j _ => by simp), F0⟩ ?_ ?_
    · rintro rec k τ hk ⟨i1, i2⟩ hrec
      have Nk : RN n m a b τ := RN_fr N i2 (by simp)
      refine br_f (by rw [Nk.2.1]; exact nI_ge hk (by omega)) ⟨vp_lt (by omega) (by omega), ?_⟩
      dsimp only [kk_j1]
      rw [rd_nI (by omega), i2.1 31 (by simp), (kk1 k hk).1]
      rcases Pr9 W Pk k hk with hc | ⟨q, hq, hc⟩
      · refine br_t hc (hrec _ ⟨RK_cong i1 (fun j hj => ?_), i2⟩)
        by_cases hjk : j = k
        · subst hjk; rw [if_neg (Nat.lt_irrefl _), if_pos (by omega), hc]
        · by_cases hlt : j < k
          · rw [if_pos hlt, if_pos (by omega)]
          · rw [if_neg hlt, if_neg (by omega)]
      · refine br_f (by rw [hc]; exact nI_ne_m1 (by omega)) ⟨vp_lt (by omega) (by omega), ?_⟩
        rw [hc]
        refine sc_give i1 (c9 k) hm hk hq (fun τ' K' F' => hrec _ ⟨RK_cong K' (fun j hj => ?_), frL_tr i2 F'⟩)
        rw [upd_if]
        by_cases hjk : j = k
        · subst hjk; rw [if_pos rfl, if_pos (by omega), hc]
        · rw [if_neg hjk]
          by_cases hlt : j < k
          · rw [if_pos hlt, if_pos (by omega)]
          · rw [if_neg hlt, if_neg (by omega)]
    · rintro rec τ ⟨i1, i2⟩
      have Nk : RN n m a b τ := RN_fr N i2 (by simp)
      refine br_t (by rw [Nk.2.1]; exact nI_le (Nat.le_refl _) (by omega)) ?_
      unfold f_X11_back
      rw [z1', h1]
      refine jn_t (by decide) ?_
      refine sm_unlikeMany M hm (fun k hk => (kk1 k hk).2) ?_
      refine lf_2_0 m (by omega) (fun k ρ => (∀ j, j < m → ρ.1 3 j = if j < k then kp j else c j) ∧ frL [3] σ2 ρ) (Nat.zero_le _) ⟨fun j hj => by rw [M.2.2.2.2 j hj]; simp, frL_rf⟩ ?_ ?_
      · rintro rec2 k ρ hk ⟨j1, j2⟩ hrec2
        have l1 : ρ.1 0 2 = nI m := by rw [j2.1 0 (by simp)]; exact M.2.1
        refine br_f (by rw [l1]; exact nI_ge hk (by omega)) ⟨vp_lt (by omega) (by omega), vp_lt (by omega) (by omega), ?_⟩
        intro ρ' e
        rw [rd_nI (by omega), nI_clamp (by omega), j2.1 5 (by simp), (kk1 k hk).2] at e
        subst e
        refine hrec2 _ ⟨fun j hj => ?_, frL_tr j2 (frL_wr (by simp))⟩
        rw [wr_at, upd_if]
        by_cases hjk : j = k
        · subst hjk; rw [if_pos rfl, if_pos (by omega)]
        · rw [if_neg hjk, j1 j hj]
          by_cases hlt : j < k
          · rw [if_pos hlt, if_pos (by omega)]
          · rw [if_neg hlt, if_neg (by omega)]
      · rintro rec2 ρ ⟨j1, j2⟩
        have l1 : ρ.1 0 2 = nI m := by rw [j2.1 0 (by simp)]; exact M.2.1
        have G : frF [3] [] σ2 ρ := frF_L j2 (by simp)
        refine br_t (by rw [l1]; exact nI_le (Nat.le_refl _) (by omega)) ⟨rfl, ?_⟩
        exact ⟨n, m, a, b, kp, kp, ls, kf, gf, W, Pk, RM_col M G (by simp) (by simp) (fun k hk => by rw [j1 k hk, if_pos hk]), Nk, RK_cong i1 (fun j hj => by rw [if_pos hj]), Rest_fr Z' i2 G (by simp) (by simp) (by simp)⟩
  · unfold f_X11_back
    rw [z1', h1]
    exact jn_f rfl ⟨rfl, same⟩
/-- like colourings: both sides ask the same -/
def lik (kp c : Nat → Int32) (k : Nat) : Bool := decide ((kp k = -1) = (c k = -1))
def lik2 (kp c : Nat → Int32) (k j : Nat) : Bool := decide ((kp k = kp j) = (c k = c j))
noncomputable def likA (m : Nat) (kp c : Nat → Int32) : Bool := @decide (∀ k, k < m → ((kp k = -1 ↔ c k = -1) ∧ ∀ j, j < k → (kp k = kp j ↔ c k = c j))) (Classical.propDecidable _)
theorem likA_t {m : Nat} {kp c : Nat → Int32} (h : ∀ k, k < m → ((kp k = -1 ↔ c k = -1) ∧ ∀ j, j < k → (kp k = kp j ↔ c k = c j))) : likA m kp c = true := @decide_eq_true _ (Classical.propDecidable _) h
theorem likA_f {m : Nat} {kp c : Nat → Int32} (h : ¬ ∀ k, k < m → ((kp k = -1 ↔ c k = -1) ∧ ∀ j, j < k → (kp k = kp j ↔ c k = c j))) : likA m kp c = false := @decide_eq_false _ (Classical.propDecidable _) h
theorem kj1_n {α : Type} {K : α → Prop} {c : Prop} [Decidable c] {x y : α} (h : K (if c then x else y)) : kk_j1 K (fun J => (¬ c → J y) ∧ (c → J x)) := jn_ite h
theorem kj1_t {α : Type} {K : α → Prop} {c : Prop} [Decidable c] {x y : α} (h : K (if c then x else y)) : kk_j1 K (fun J => (c → J x) ∧ (¬ c → J y)) := j_ite h
theorem two_eq {A B : Prop} [Decidable A] [Decidable B] : ((if A then (1 : Int32) else 0) = if B then 1 else 0) ↔ (A ↔ B) := by
  by_cases ha : A <;> by_cases hb : B <;> simp [ha, hb]
theorem sc_isLikeKept {n m : Nat} {a b : Nat → Nat} {c kp : Nat → Int32} {σ : kk_St} (N : RN n m a b σ) (K : RK m c σ) (hm : m ≤ 20) (h31 : ∀ k, k < m → σ.1 31 k = kp k) {Q : Int32 → Prop} (h : Q (bI (likA m kp c))) : f_X10_isLikeKept σ Q := by
  unfold f_X10_isLikeKept
  refine lf_1_0 m (by omega) (fun k => ∀ i, i < k → ((kp i = -1 ↔ c i = -1) ∧ ∀ j, j < i → (kp i = kp j ↔ c i = c j))) (Nat.zero_le _) (fun i hi => absurd hi (Nat.not_lt_zero _)) ?_ ?_
  · intro rec k hk hI hrec
    refine br_f (by rw [N.2.1]; exact nI_ge hk (by omega)) ⟨vp_lt (by omega) (by omega), ?_⟩
    rw [rd_nI (by omega), rd_nI (by omega), h31 k hk, K.1 k (by omega), if_pos hk]
    refine kj1_n ?_
    refine ⟨vp_lt (by omega) (by omega), ?_⟩
    refine kj1_n ?_
    have bad : (¬ ((kp k = -1 ↔ c k = -1) ∧ ∀ j, j < k → (kp k = kp j ↔ c k = c j))) → Q 0 := fun hz => by
      rw [likA_f (fun hall => hz (hall k hk))] at h; exact h
    refine ⟨fun e => ?_, fun e => bad (fun z => e (two_eq.mpr z.1))⟩
    have e1 := two_eq.mp e
    refine lf_1_0 k (by omega) (fun j => ∀ i, i < j → (kp k = kp i ↔ c k = c i)) (Nat.zero_le _) (fun i hi => absurd hi (Nat.not_lt_zero _)) ?_ ?_
    · intro rec2 j hj hJ hrec2
      refine br_f (nI_ge hj (by omega)) ⟨vp_lt (by omega) (by omega), vp_lt (by omega) (by omega), ?_⟩
      rw [rd_nI (by omega), rd_nI (by omega), h31 j (by omega), K.1 j (by omega), if_pos (by omega)]
      refine kj1_n ?_
      refine ⟨vp_lt (by omega) (by omega), vp_lt (by omega) (by omega), ?_⟩
      refine kj1_n ?_
      refine ⟨fun e2 => hrec2 (fun i hi => ?_), fun e2 => bad (fun z => e2 (two_eq.mpr (z.2 j hj)))⟩
      by_cases hij : i = j
      · rw [hij]; exact two_eq.mp e2
      · exact hJ i (by omega)
    · intro rec2 hJ
      refine br_t (nI_le (Nat.le_refl _) (by omega)) (hrec (fun i hi => ?_))
      by_cases hik : i = k
      · subst hik; exact ⟨e1, hJ⟩
      · exact hI i (by omega)
  · intro rec hI
    rw [likA_t hI] at h
    exact br_t (by rw [N.2.1]; exact nI_le (Nat.le_refl _) (by omega)) h
theorem neg_iff {n m : Nat} {a b : Nat → Nat} {c : Nat → Int32} (W : Wf n m a b) (P : Pr n m a b c) {k : Nat} (hk : k < m) : 0 ≤ c k ↔ ¬ c k = -1 := by
  rcases Pr9 W P k hk with hc | ⟨q, hq, hc⟩
  · rw [hc]; decide
  · rw [hc]
    exact ⟨fun _ => nI_ne_m1 (by omega), fun _ => nI_pos' (by omega)⟩
theorem j_pos {n m : Nat} {a b : Nat → Nat} {c : Nat → Int32} (W : Wf n m a b) (P : Pr n m a b c) {k : Nat} (hk : k < m) {T : Int32 → Prop} (h : T (if c k = -1 then 1 else 0)) : (0 ≤ c k → T 0) ∧ (¬ 0 ≤ c k → T 1) := by
  have := neg_iff W P hk
  by_cases hc : c k = -1
  · rw [if_pos hc] at h
    exact br_f (fun z => this.mp z hc) h
  · rw [if_neg hc] at h
    exact br_t (this.mpr hc) h
theorem kj1_pos {n m : Nat} {a b : Nat → Nat} {c : Nat → Int32} (W : Wf n m a b) (P : Pr n m a b c) {k : Nat} (hk : k < m) {T : Int32 → Prop} (h : T (if c k = -1 then 1 else 0)) : kk_j1 T (fun J => (0 ≤ c k → J 0) ∧ (¬ 0 ≤ c k → J 1)) := j_pos W P hk h
theorem sm_areLike {n m : Nat} {a b : Nat → Nat} {c kp : Nat → Int32} {σ : kk_St} (M : RM n m a b c σ) (W : Wf n m a b) (P : Pr n m a b c) (Pk : Pr n m a b kp) (h5 : ∀ k, k < m → σ.1 5 k = kp k) {Q : Int32 → Prop} (h : Q (bI (likA m kp c))) : f_X11_areLike σ Q := by
  have hm := W.2.2.1
  unfold f_X11_areLike
  refine lf_1_0 m (by omega) (fun k => ∀ i, i < k → ((kp i = -1 ↔ c i = -1) ∧ ∀ j, j < i → (kp i = kp j ↔ c i = c j))) (Nat.zero_le _) (fun i hi => absurd hi (Nat.not_lt_zero _)) ?_ ?_
  · intro rec k hk hI hrec
    refine br_f (by rw [M.2.1]; exact nI_ge hk (by omega)) ⟨vp_lt (by omega) (by omega), ?_⟩
    rw [rd_nI (by omega), rd_nI (by omega), h5 k hk, M.2.2.2.2 k hk]
    refine kj1_pos W Pk hk ?_
    refine ⟨vp_lt (by omega) (by omega), ?_⟩
    refine kj1_pos W P hk ?_
    have bad : (¬ ((kp k = -1 ↔ c k = -1) ∧ ∀ j, j < k → (kp k = kp j ↔ c k = c j))) → Q 0 := fun hz => by
      rw [likA_f (fun hall => hz (hall k hk))] at h; exact h
    refine ⟨fun e => ?_, fun e => bad (fun z => e (two_eq.mpr z.1))⟩
    have e1 := two_eq.mp e
    refine lf_1_0 k (by omega) (fun j => ∀ i, i < j → (kp k = kp i ↔ c k = c i)) (Nat.zero_le _) (fun i hi => absurd hi (Nat.not_lt_zero _)) ?_ ?_
    · intro rec2 j hj hJ hrec2
      refine br_f (nI_ge hj (by omega)) ⟨vp_lt (by omega) (by omega), vp_lt (by omega) (by omega), ?_⟩
      rw [rd_nI (by omega), rd_nI (by omega), h5 j (by omega), M.2.2.2.2 j (by omega)]
      refine kj1_n ?_
      refine ⟨vp_lt (by omega) (by omega), vp_lt (by omega) (by omega), ?_⟩
      refine kj1_n ?_
      refine ⟨fun e2 => hrec2 (fun i hi => ?_), fun e2 => bad (fun z => e2 (two_eq.mpr (z.2 j hj)))⟩
      by_cases hij : i = j
      · rw [hij]; exact two_eq.mp e2
      · exact hJ i (by omega)
    · intro rec2 hJ
      refine br_t (nI_le (Nat.le_refl _) (by omega)) (hrec (fun i hi => ?_))
      by_cases hik : i = k
      · subst hik; exact ⟨e1, hJ⟩
      · exact hI i (by omega)
  · intro rec hI
    rw [likA_t hI] at h
    exact br_t (by rw [M.2.1]; exact nI_le (Nat.le_refl _) (by omega)) h
theorem q_unlike : pr_unlike Rel := by
  rintro σ1 σ2 ⟨n, m, a, b, c, kp, ls, kf, gf, W, P, M, N, K, Z⟩ v1
  have hm := W.2.2.1
  have same : Rel σ1 σ2 := ⟨n, m, a, b, c, kp, ls, kf, gf, W, P, M, N, K, Z⟩
  obtain ⟨⟨z1, z1', z1''⟩, z2, z3, z4⟩ := Z
  have e1 : (if (0 : Int32) ≤ v1 ∧ v1 ≤ (1 : Int32) then (1 : Int32) else 0) = bI (!decide (v1 < 0) && decide (v1 ≤ nI 1)) := in_br (x := 1) (by omega)
  have modNo : (!decide (v1 < 0) && decide (v1 ≤ nI 1)) = false → f_X11_unlike v1 σ2 (fun r' => -1 = r' ∧ Rel σ1 σ2) := by
    intro hz
    unfold f_X11_unlike
    refine sp_in ?_
    rw [e1, hz]
    exact jn_f rfl ⟨rfl, same⟩
  unfold f_X10_unlike
  dsimp only [kk_j0]
  by_cases h2 : v1 < 0
  · exact br_t h2 (modNo (by rw [decide_eq_true h2]; rfl))
  · refine br_f h2 ?_
    by_cases h3 : v1 ≤ nI 1
    · refine br_t h3 ?_
      have mod : ∀ {Q : Int32 → Prop}, (kf = false → Q (-2)) → (kf = true → v1 = 0 → Q (nI (fb_ct (fun k => !decide (kp k = c k)) m))) → (kf = true → ¬ v1 = 0 → Q (bI (likA m kp c))) → f_X11_unlike v1 σ2 Q := by
        intro Q g0 g1 g2
        unfold f_X11_unlike
        refine sp_in ?_
        rw [e1, decide_eq_false h2, decide_eq_true h3]
        refine jn_t (by decide) ?_
        rw [z1']
        refine bI_nz (fun hk => ?_) (fun hk => g0 hk)
        obtain ⟨Pk, kk1, kk2⟩ := z1'' hk
        dsimp only [kk_j1]
        refine ⟨fun hv => ?_, fun hv => ?_⟩
        · refine sm_areLike M W P Pk (fun k hk => (kk1 k hk).2) ?_
          have := g2 hk hv
          cases hl : likA m kp c with
          | true => rw [hl] at this; exact br_f (by decide) this
          | false => rw [hl] at this; exact br_t rfl this
        · exact sm_unlikeMany M hm (fun k hk => (kk1 k hk).2) (g1 hk hv)
      rw [z1]
      refine bI_nz (fun hk => ?_) (fun hk => ?_)
      · obtain ⟨Pk, kk1, kk2⟩ := z1'' hk
        refine ⟨fun hv => ?_, fun hv => ?_⟩
        · refine sc_isLikeKept N K hm (fun k hk => (kk1 k hk).1) ?_
          dsimp only [kk_j1]
          refine bI_zn (fun hl => ?_) (fun hl => ?_)
          · exact mod (fun z => by rw [hk] at z; cases z) (fun _ z => absurd z hv) (fun _ _ => by rw [hl]; exact ⟨rfl, same⟩)
          · exact mod (fun z => by rw [hk] at z; cases z) (fun _ z => absurd z hv) (fun _ _ => by rw [hl]; exact ⟨rfl, same⟩)
        · refine sc_countUnlike N K hm (fun k hk => (kk1 k hk).1) ?_
          exact mod (fun z => by rw [hk] at z; cases z) (fun _ _ => ⟨rfl, same⟩) (fun _ z => absurd hv z)
      · exact mod (fun _ => ⟨rfl, same⟩) (fun z => by rw [hk] at z; cases z) (fun z => by rw [hk] at z; cases z)
    · exact br_f h3 (modNo (by rw [decide_eq_false h3, Bool.and_false]))
