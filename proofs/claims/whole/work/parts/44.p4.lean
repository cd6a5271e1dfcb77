/-! pairs: begin, line -/
theorem RK_0 {σ : kk_St} {c : Nat → Int32} {m : Nat} (K : RK m (fun _ => -1) σ) (h : m = 0) : RK 0 c σ := by
  subst h
  refine ⟨fun k hk => ?_, fun q hq => ?_⟩
  · rw [K.1 k hk]; simp
  · rw [K.2 q hq]; rfl
theorem q_begin : pr_begin Rel := by
  rintro σ1 σ2 ⟨n, m, a, b, c, kp, ls, kf, gf, W, P, M, N, K, Z⟩ v1
  have same : Rel σ1 σ2 := ⟨n, m, a, b, c, kp, ls, kf, gf, W, P, M, N, K, Z⟩
  have e9 : ∀ (h1 : ¬ v1 < 1) , (if (1 : Int32) ≤ v1 ∧ v1 ≤ (9 : Int32) then (1 : Int32) else 0) = bI (decide (v1 ≤ 9)) := by
    intro h1
    rw [bI_iteP]
    congr 1
    apply decide_eq_decide.mpr
    exact ⟨fun z => z.2, fun z => ⟨fa_of_nlt h1, z⟩⟩
  have modNo : (if (1 : Int32) ≤ v1 ∧ v1 ≤ (9 : Int32) then (1 : Int32) else 0) = 0 → f_X11_begin v1 σ2 (fun r' σ2' => 0 = r' ∧ Rel σ1 σ2') := by
    intro hz
    unfold f_X11_begin
    refine sp_in ?_
    rw [hz]
    exact jn_f rfl ⟨rfl, same⟩
  unfold f_X10_begin
  dsimp only [kk_j0]
  by_cases h1 : v1 < 1
  · refine br_t h1 (modNo (if_neg (fun z => absurd z.1 (fa_of_lt h1).2.1)))
  · refine br_f h1 ?_
    by_cases h2 : v1 ≤ 9
    · refine br_t h2 ?_
      have h0 : ¬ v1 < 0 := fun z => h1 (by rw [Int32.lt_iff_toInt_lt] at *; simp at *; omega)
      obtain ⟨x, hx, hv⟩ := nI_of2 (n := 9) rfl h0 h2
      subst hv
      have hx1 : 1 ≤ x := by
        by_cases hz : x = 0
        · subst hz; exact absurd (by decide) h1
        · omega
      unfold f_X6_clear
      intro t1 e1 t2 e2 t3 e3
      refine sc_fill (by omega) (fun t4 g4 _ F4 => ?_)
      refine sc_fill (by omega) (fun t5 g5 _ F5 => ?_)
      refine sc_clear (m := 0) (by omega) (fun t6 K6 F6 => ?_)
      intro t7 e7
      unfold f_X7_forget f_X7_forgetAnswer
      intro t8 e8 t9 e9' t10 e10 t11 e11
      unfold f_X11_begin
      refine sp_in ?_
      rw [e9 h1, decide_eq_true h2]
      refine jn_t (by decide) ?_
      intro s1 d1 s2 d2 s3 d3 s4 d4
      refine ⟨rfl, x, 0, a, b, c, kp, ls, false, false, ⟨hx1, hx, by omega, fun k hk => absurd hk (Nat.not_lt_zero _), fun i j hi => absurd hi (Nat.not_lt_zero _)⟩, ⟨fun k hk => absurd hk (Nat.not_lt_zero _), fun i j hi => absurd hi (Nat.not_lt_zero _)⟩, ?_, ?_, ?_, ?_⟩
      · refine ⟨?_, ?_, fun k hk => absurd hk (Nat.not_lt_zero _), fun k hk => absurd hk (Nat.not_lt_zero _), fun k hk => absurd hk (Nat.not_lt_zero _)⟩
        · rw [d4, wr_at, upd_ne _ _ (by decide), d3, wr_at, upd_ne _ _ (by decide), d2, wr_at, upd_ne _ _ (by decide), d1, wr_at, upd_at]
        · rw [d4, wr_at, upd_ne _ _ (by decide), d3, wr_at, upd_ne _ _ (by decide), d2, wr_at, upd_at]; rfl
      · -- the network
        have Fb : frL [0, 7, 4, 16, 17] t5 t11 := by
          rw [e11, e10, e9', e8, e7]
          exact frL_tr (frL_mono F6 (by simp)) (frL_tr (frL_wr (by simp)) (frL_tr (frL_wr (by simp)) (frL_tr (frL_wr (by simp)) (frL_tr (frL_wr (by simp)) (frL_wr (by simp))))))
        have c1 : t11.1 1 = t3.1 1 := by rw [Fb.1 1 (by simp), F5.1 1 (by simp), F4.1 1 (by simp)]
        have hDg : Dg x 0 a b = 0 := by
          have := mx_le (f := dg 0 a b) (M := 0) (n := x) (fun k _ => Nat.le_refl _)
          unfold Dg; omega
        refine ⟨?_, ?_, ?_, fun k hk => absurd hk (Nat.not_lt_zero _), fun k hk => absurd hk (Nat.not_lt_zero _), fun k hk => absurd hk (Nat.not_lt_zero _), fun p hp => ?_, fun p hp => ?_⟩
        · rw [c1, e3, wr_at, upd_ne _ _ (by decide), e2, wr_at, upd_ne _ _ (by decide), e1, wr_at, upd_at]
        · rw [c1, e3, wr_at, upd_ne _ _ (by decide), e2, wr_at, upd_at]; rfl
        · rw [c1, e3, wr_at, upd_at, hDg]; rfl
        · rw [Fb.1 14 (by simp), F5.1 14 (by simp), g4 p hp]; rfl
        · rw [Fb.1 15 (by simp), g5 p hp]
          symm
          exact (mk_eq0 (by omega)).mpr (fun q _ => by unfold adj; simp [anyb])
      · refine RK_fr (RK_0 K6 rfl) (L := [0, 7, 4]) ?_ (by simp)
        rw [e11, e10, e9', e8, e7]
        exact frL_tr (frL_wr (by simp)) (frL_tr (frL_wr (by simp)) (frL_tr (frL_wr (by simp)) (frL_tr (frL_wr (by simp)) (frL_wr (by simp)))))
      · have t7c : ∀ i, t11.1 7 i = t10.1 7 i := fun i => by rw [e11, wr_ne _ _ _ (by decide)]
        refine ⟨⟨by rw [e11, wr_at, upd_at]; rfl, ?_, fun z => by cases z⟩, ⟨?_, ?_, fun z => by cases z⟩, fun k hk => absurd hk (Nat.not_lt_zero _), Or.inl ?_, Or.inl ?_, Or.inl ?_⟩
        · rw [d4, wr_at, upd_ne _ _ (by decide), d3, wr_at, upd_at]; rfl
        · rw [e11, wr_ne _ _ _ (by decide), e10, wr_ne _ _ _ (by decide), e9', wr_ne _ _ _ (by decide), e8, wr_ne _ _ _ (by decide), e7, wr_at, upd_at]; rfl
        · rw [d4, wr_at, upd_at]; rfl
        · rw [t7c, e10, wr_at, upd_ne _ _ (by decide), e9', wr_at, upd_ne _ _ (by decide), e8, wr_at, upd_at]
        · rw [t7c, e10, wr_at, upd_ne _ _ (by decide), e9', wr_at, upd_at]
        · rw [t7c, e10, wr_at, upd_at]
    · refine br_f h2 (modNo (if_neg (fun z => h2 z.2)))
theorem inc2 {a b : Nat → Nat} {k p q : Nat} (hab : a k < b k) (hpq : p ≠ q) : (inc a b k p && inc a b k q) = ((decide (a k = p) && decide (b k = q)) || (decide (a k = q) && decide (b k = p))) := by
  apply Bool.eq_iff_iff.mpr
  simp only [Bool.and_eq_true, Bool.or_eq_true, inc_iff, decide_eq_true_eq]
  omega
theorem sm_lineOf {n m : Nat} {a b : Nat → Nat} {c : Nat → Int32} {σ : kk_St} (M : RM n m a b c σ) (W : Wf n m a b) {p q : Nat} (hp : p < 32) (hq : q < 32) (hpq : p ≠ q) {Q : Int32 → Prop} (h : Q (fI (fun k => inc a b k p && inc a b k q) m)) : f_X11_lineOf (nI p) (nI q) σ Q := by
  have hm := W.2.2.1
  have hn := W.2.1
  unfold f_X11_lineOf
  dsimp only [kk_j1]
  refine lf_1_0 m (by omega) (fun k => ∀ j, j < k → (inc a b j p && inc a b j q) = false) (Nat.zero_le _) (fun j hj => absurd hj (Nat.not_lt_zero _)) ?_ ?_
  · intro rec k hk hI hrec
    have hw := W.2.2.2.1 k hk
    refine br_f (by rw [M.2.1]; exact nI_ge hk (by omega)) ⟨vp_lt (by omega) (by omega), ?_⟩
    dsimp only [kk_j0]
    rw [rd_nI (by omega), rd_nI (by omega), M.2.2.1 k hk, M.2.2.2.1 k hk]
    have e := inc2 (a := a) (b := b) (k := k) hw.1 hpq
    have yes : (inc a b k p && inc a b k q) = true → Q (nI k) := fun hz => by
      rw [fI_at hk hz hI] at h; exact h
    have no : (inc a b k p && inc a b k q) = false → rec (nI k + 1) := fun hz => hrec (fun j hj => by
      by_cases hjk : j = k
      · rw [hjk]; exact hz
      · exact hI j (by omega))
    have second : ¬ (a k = p ∧ b k = q) → vp_in (nI k) 20 ∧ (¬ nI (a k) = nI q → rec (nI k + 1)) ∧ (nI (a k) = nI q → vp_in (nI k) 20 ∧ (¬ nI (b k) = nI p → rec (nI k + 1)) ∧ (nI (b k) = nI p → Q (nI k))) := by
      intro hz
      refine ⟨vp_lt (by omega) (by omega), ?_⟩
      rw [nI_ne (by omega) (by omega), nI_ne (by omega) (by omega)]
      by_cases h1 : a k = q
      · refine jn_f h1 ⟨vp_lt (by omega) (by omega), ?_⟩
        by_cases h2 : b k = p
        · exact jn_f h2 (yes (by rw [e]; simp [h1, h2]))
        · exact jn_t h2 (no (by rw [e]; simp [h2]; omega))
      · exact jn_t h1 (no (by rw [e]; simp [h1]; omega))
    rw [nI_ne (i := a k) (j := p) (by omega) (by omega), nI_ne (i := b k) (j := q) (by omega) (by omega)]
    by_cases h1 : a k = p
    · refine jn_f h1 ⟨vp_lt (by omega) (by omega), ?_⟩
      by_cases h2 : b k = q
      · exact br_t h2 (yes (by rw [e]; simp [h1, h2]))
      · exact br_f h2 (second (fun z => h2 z.2))
    · exact jn_t h1 (second (fun z => h1 z.1))
  · intro rec hI
    rw [fI_none hI] at h
    exact br_t (by rw [M.2.1]; exact nI_le (Nat.le_refl _) (by omega)) h
/-- one line more -/
def snoc (f : Nat → Nat) (m x : Nat) : Nat → Nat := fun k => if k = m then x else f k
theorem snoc_lt {f : Nat → Nat} {m x k : Nat} (h : k < m) : snoc f m x k = f k := if_neg (by omega)
theorem snoc_at {f : Nat → Nat} {m x : Nat} : snoc f m x m = x := if_pos rfl
section
variable {n m : Nat} {a b : Nat → Nat} {x y : Nat}
theorem snoc_inc {k p : Nat} (h : k < m) : inc (snoc a m x) (snoc b m y) k p = inc a b k p := by unfold inc; rw [snoc_lt h, snoc_lt h]
theorem snoc_incm {p : Nat} : inc (snoc a m x) (snoc b m y) m p = (decide (x = p) || decide (y = p)) := by unfold inc; rw [snoc_at, snoc_at]
theorem snoc_mts {k j : Nat} (hk : k < m) (hj : j < m) : mts (snoc a m x) (snoc b m y) k j = mts a b k j := by
  unfold mts; rw [snoc_inc hk, snoc_inc hk, snoc_lt hj, snoc_lt hj]
theorem snoc_mtsm {k : Nat} (hk : k < m) : mts (snoc a m x) (snoc b m y) k m = (inc a b k x || inc a b k y) := by
  unfold mts; rw [snoc_inc hk, snoc_inc hk, snoc_at, snoc_at, decide_eq_false (by omega)]; rfl
theorem snoc_dg {p : Nat} (hp : p < n) : dg m a b p ≤ dg (m + 1) (snoc a m x) (snoc b m y) p := by
  unfold dg
  rw [fb_ct_succ]
  have : fb_ct (fun k => inc (snoc a m x) (snoc b m y) k p) m = fb_ct (fun k => inc a b k p) m := fb_ct_cong (fun k hk => snoc_inc hk)
  omega
theorem snoc_Dg : Dg n m a b ≤ Dg n (m + 1) (snoc a m x) (snoc b m y) := mx_le (fun p hp => Nat.le_trans (snoc_dg hp) (mx_ge _ hp))
theorem snoc_Pr {c c' : Nat → Int32} (P : Pr n m a b c) (hc : ∀ k, k < m → c' k = c k) (hm : c' m = -1) : Pr n (m + 1) (snoc a m x) (snoc b m y) c' := by
  refine ⟨fun k hk => ?_, fun i j hi hj hmt he => ?_⟩
  · by_cases hkm : k = m
    · rw [hkm]; exact Or.inl hm
    · rw [hc k (by omega)]
      rcases P.1 k (by omega) with h | ⟨q, hq, h⟩
      · exact Or.inl h
      · exact Or.inr ⟨q, Nat.le_trans hq snoc_Dg, h⟩
  · by_cases him : i = m
    · rw [him]; exact hm
    · by_cases hjm : j = m
      · rw [he, hjm]; exact hm
      · rw [snoc_mts (by omega) (by omega)] at hmt
        rw [hc i (by omega), hc j (by omega)] at he
        rw [hc i (by omega)]
        exact P.2 i j (by omega) (by omega) hmt he
theorem snoc_Wf (W : Wf n m a b) (hm : m < 20) (hxy : x < y) (hy : y < n) (hno : ∀ k, k < m → (inc a b k x && inc a b k y) = false) : Wf n (m + 1) (snoc a m x) (snoc b m y) := by
  refine ⟨W.1, W.2.1, by omega, fun k hk => ?_, fun i j hi hj h1 h2 => ?_⟩
  · by_cases hkm : k = m
    · subst hkm; rw [snoc_at, snoc_at]; exact ⟨hxy, hy⟩
    · rw [snoc_lt (by omega), snoc_lt (by omega)]; exact W.2.2.2.1 k (by omega)
  · have key : ∀ k, k < m → ¬ (a k = x ∧ b k = y) := fun k hk z => by
      have := hno k hk
      rw [inc_iff.mpr (Or.inl z.1), inc_iff.mpr (Or.inr z.2)] at this
      cases this
    by_cases him : i = m <;> by_cases hjm : j = m
    · omega
    · rw [him, snoc_at, snoc_lt (by omega)] at h1 h2
      exact absurd ⟨h1.symm, h2.symm⟩ (key j (by omega))
    · rw [hjm, snoc_at, snoc_lt (by omega)] at h1 h2
      exact absurd ⟨h1, h2⟩ (key i (by omega))
    · rw [snoc_lt (by omega), snoc_lt (by omega)] at h1 h2
      exact W.2.2.2.2 i j (by omega) (by omega) h1 h2
end
theorem sc_most0 {n m : Nat} {a b : Nat → Nat} {σ : kk_St} (r1 : σ.1 1 5 = nI n) (r2 : ∀ p, p < 9 → σ.1 14 p = mk (fun k => inc a b k p) m) (hn : n ≤ 9) (hm : m ≤ 20) {Q : Int32 → Prop} (h : Q (nI (Dg n m a b))) : f_X6_mostAtOnePost (mk (fun _ => true) m) σ Q := by
  unfold f_X6_mostAtOnePost
  have hle : ∀ p, dg m a b p ≤ m := fun p => fb_ct_le _ _
  refine lf_2_1 n (by omega) (fun k v => v = nI (mx (dg m a b) k)) (Nat.zero_le _) rfl ?_ ?_
  · intro rec k v hk hv hrec
    subst hv
    refine br_f (by rw [r1]; exact nI_ge hk (by omega)) ⟨vp_lt (by omega) (by omega), ?_⟩
    rw [rd_nI (by omega), r2 k (by omega), mk_and]
    refine sp_bitCountM (by omega) ?_
    have hx : mx (dg m a b) k ≤ m := mx_le (fun p _ => hle p)
    have hy := hle k
    have he : fb_ct (fun j => inc a b j k && true) m = dg m a b k := fb_ct_cong (fun j _ => Bool.and_true _)
    rw [he]
    refine hrec _ ?_
    rw [kk_max_nI (by omega) (by omega)]
    rfl
  · intro rec v hv
    subst hv
    exact br_t (by rw [r1]; exact nI_le (Nat.le_refl _) (by omega)) h
theorem mk_snoc {P P' : Nat → Bool} {m : Nat} (hm : m < 32) (h : ∀ k, k < m → P' k = P k) : (if P' m then mk P m ||| ((1 : Int32) <<< (nI m &&& 31)) else mk P m) = mk P' (m + 1) := by
  rw [mk_cong (P := P) (P' := P') (fun k hk => (h k hk).symm)]
  exact mk_push P' hm
theorem sc_add {n m : Nat} {a b : Nat → Nat} {σ : kk_St} (N : RN n m a b σ) (W : Wf n m a b) {p q : Nat} (hp : p < n) (hq : q < n) (hpq : p ≠ q) (hm20 : m < 20) {Q : kk_St → Prop} (h : ∀ σ', RN n (m + 1) (snoc a m (if q < p then q else p)) (snoc b m (if q > p then q else p)) σ' → frL [1, 11, 12, 13, 14, 15] σ σ' → Q σ') : f_X6_add (nI p) (nI q) σ Q := by
  have hm := W.2.2.1
  have hn := W.2.1
  generalize hx : (if q < p then q else p) = x at h
  generalize hy : (if q > p then q else p) = y at h
  have hxy : (x = p ∧ y = q) ∨ (x = q ∧ y = p) := by
    rw [← hx, ← hy]
    by_cases z : q < p
    · right; rw [if_pos z, if_neg (by omega)]; exact ⟨rfl, rfl⟩
    · left; rw [if_neg z, if_pos (by omega)]; exact ⟨rfl, rfl⟩
  have hor : ∀ k, (inc a b k p || inc a b k q) = (inc a b k x || inc a b k y) := fun k => by
    rcases hxy with ⟨rfl, rfl⟩ | ⟨rfl, rfl⟩
    · rfl
    · exact Bool.or_comm _ _
  unfold f_X6_add
  refine ⟨vp_lt (by omega) (by omega), vp_lt (by omega) (by omega), ?_⟩
  intro v4 e4
  rw [rd_nI (by omega), rd_nI (by omega), N.2.2.2.2.2.2.1 p (by omega), N.2.2.2.2.2.2.1 q (by omega), mk_or] at e4
  subst e4
  rw [N.2.1]
  refine lf_2_0 m (by omega) (fun k τ => (∀ j, j < m → τ.1 13 j = if j < k then mk (mts (snoc a m x) (snoc b m y) j) (m + 1) else mk (mts a b j) m) ∧ frL [13] σ τ) (Nat.zero_le _) ⟨fun j hj => by rw [N.2.2.2.2.2.1 j hj]; simp, frL_rf⟩ ?_ ?_
  · rintro rec k τ hk ⟨i1, i2⟩ hrec
    refine br_f (nI_ge hk (by omega)) ?_
    dsimp only [kk_j1]
    rw [z_bit _ (by omega), mk_bt _ _ (by omega), decide_eq_true hk, Bool.true_and, bI_ite]
    have hs := mk_snoc (P := mts a b k) (P' := mts (snoc a m x) (snoc b m y) k) (m := m) (by omega) (fun j hj => snoc_mts hk hj)
    rw [snoc_mtsm hk, ← hor k] at hs
    refine bI_zn (fun hz => ?_) (fun hz => ?_)
    · rw [if_neg (by rw [hz]; decide)] at hs
      refine hrec _ ⟨fun j hj => ?_, i2⟩
      rw [i1 j hj]
      by_cases hjk : j = k
      · subst hjk; rw [if_neg (Nat.lt_irrefl _), if_pos (by omega)]; exact hs
      · by_cases hlt : j < k
        · rw [if_pos hlt, if_pos (by omega)]
        · rw [if_neg hlt, if_neg (by omega)]
    · rw [if_pos hz] at hs
      refine ⟨vp_lt (by omega) (by omega), vp_lt (by omega) (by omega), ?_⟩
      intro ρ e
      rw [rd_nI (by omega), nI_clamp (by omega), i1 k hk, if_neg (Nat.lt_irrefl _), hs] at e
      subst e
      refine hrec _ ⟨fun j hj => ?_, frL_tr i2 (frL_wr (by simp))⟩
      rw [wr_at, upd_if]
      by_cases hjk : j = k
      · subst hjk; rw [if_pos rfl, if_pos (by omega)]
      · rw [if_neg hjk, i1 j hj]
        by_cases hlt : j < k
        · rw [if_pos hlt, if_pos (by omega)]
        · rw [if_neg hlt, if_neg (by omega)]
  · rintro rec τ ⟨i1, i2⟩
    refine br_t (nI_le (Nat.le_refl _) (by omega)) ⟨vp_lt (by omega) (by omega), ?_⟩
    intro t5 e5
    refine ⟨vp_lt (by omega) (by omega), ?_⟩
    intro t6 e6
    refine ⟨vp_lt (by omega) (by omega), ?_⟩
    intro t7 e7
    refine ⟨vp_lt (by omega) (by omega), vp_lt (by omega) (by omega), ?_⟩
    intro t8 e8
    refine ⟨vp_lt (by omega) (by omega), vp_lt (by omega) (by omega), ?_⟩
    intro t9 e9
    refine ⟨vp_lt (by omega) (by omega), vp_lt (by omega) (by omega), ?_⟩
    intro t10 e10
    refine ⟨vp_lt (by omega) (by omega), vp_lt (by omega) (by omega), ?_⟩
    intro t11 e11 t12 e12
    rw [nI_clamp (by omega)] at e5 e6 e7
    rw [nI_clamp (by omega), rd_nI (by omega)] at e8 e9 e10 e11
    rw [kk_min_nI (by omega) (by omega), hx] at e5
    rw [kk_max_nI (by omega) (by omega), hy] at e6
    -- lines at posts
    have l14 : ∀ r, r < 9 → t7.1 14 r = mk (fun k => inc a b k r) m := fun r hr => by
      rw [e7, wr_ne _ _ _ (by decide), e6, wr_ne _ _ _ (by decide), e5, wr_ne _ _ _ (by decide), i2.1 14 (by simp)]; exact N.2.2.2.2.2.2.1 r hr
    have l15 : ∀ r, r < 9 → t9.1 15 r = mk (adj m a b r) 9 := fun r hr => by
      rw [e9, wr_ne _ _ _ (by decide), e8, wr_ne _ _ _ (by decide), e7, wr_ne _ _ _ (by decide), e6, wr_ne _ _ _ (by decide), e5, wr_ne _ _ _ (by decide), i2.1 15 (by simp)]; exact N.2.2.2.2.2.2.2 r hr
    have hincm : ∀ r, inc (snoc a m x) (snoc b m y) m r = (decide (p = r) || decide (q = r)) := fun r => by
      rw [snoc_incm]
      rcases hxy with ⟨rfl, rfl⟩ | ⟨rfl, rfl⟩
      · rfl
      · exact Bool.or_comm _ _
    have n14 : ∀ r, r < 9 → t12.1 14 r = mk (fun k => inc (snoc a m x) (snoc b m y) k r) (m + 1) := fun r hr => by
      have hs := mk_snoc (P := fun k => inc a b k r) (P' := fun k => inc (snoc a m x) (snoc b m y) k r) (m := m) (by omega) (fun j hj => snoc_inc hj)
      rw [e12, wr_ne _ _ _ (by decide), e11, wr_ne _ _ _ (by decide), e10, wr_ne _ _ _ (by decide), e9, wr_at, upd_if]
      by_cases hrq : r = q
      · subst hrq
        rw [if_pos rfl, e8, wr_at, upd_ne _ _ (Ne.symm hpq), l14 r hr]
        rw [if_pos (by rw [hincm]; simp)] at hs
        exact hs
      · rw [if_neg hrq, e8, wr_at, upd_if]
        by_cases hrp : r = p
        · subst hrp
          rw [if_pos rfl, l14 r hr]
          rw [if_pos (by rw [hincm]; simp)] at hs
          exact hs
        · rw [if_neg hrp, l14 r hr]
          have hf : inc (snoc a m x) (snoc b m y) m r = false := by rw [hincm, decide_eq_false (Ne.symm hrp), decide_eq_false (Ne.symm hrq)]; rfl
          rw [hf] at hs
          exact hs
    have hadj : ∀ r s, adj (m + 1) (snoc a m x) (snoc b m y) r s = (adj m a b r s || (!decide (r = s) && ((decide (p = r) || decide (q = r)) && (decide (p = s) || decide (q = s))))) := fun r s => by
      unfold adj
      rw [anyb, hincm r, hincm s, anyb_cong (P' := fun k => inc a b k r && inc a b k s) (fun k hk => by rw [snoc_inc hk, snoc_inc hk])]
      cases decide (r = s) <;> simp
    have n15 : ∀ r, r < 9 → t12.1 15 r = mk (adj (m + 1) (snoc a m x) (snoc b m y) r) 9 := fun r hr => by
      rw [e12, wr_ne _ _ _ (by decide), e11, wr_at, upd_if]
      by_cases hrq : r = q
      · subst hrq
        rw [if_pos rfl, e10, wr_at, upd_ne _ _ (Ne.symm hpq), l15 r hr, mk_set (by omega) (by omega)]
        refine mk_cong (fun s _ => ?_)
        rw [hadj]
        congr 1
        by_cases hs : s = p
        · subst hs; simp [Ne.symm hpq]
        · by_cases hsr : r = s
          · simp [hsr, hs]
          · simp [hs, hsr]; intro z; exact absurd z.symm hs
      · rw [if_neg hrq, e10, wr_at, upd_if]
        by_cases hrp : r = p
        · subst hrp
          rw [if_pos rfl, l15 r hr, mk_set (by omega) (by omega)]
          refine mk_cong (fun s _ => ?_)
          rw [hadj]
          congr 1
          by_cases hs : s = q
          · subst hs; simp [hrq]
          · by_cases hsr : r = s
            · simp [hsr, hs]
            · simp [hs, hsr]; intro z; exact absurd z.symm hs
        · rw [if_neg hrp, l15 r hr]
          refine mk_cong (fun s _ => ?_)
          rw [hadj, decide_eq_false (Ne.symm hrp), decide_eq_false (Ne.symm hrq)]; simp
    have c1 : t11.1 1 = σ.1 1 := by
      rw [e11, wr_ne _ _ _ (by decide), e10, wr_ne _ _ _ (by decide), e9, wr_ne _ _ _ (by decide), e8, wr_ne _ _ _ (by decide), e7, wr_ne _ _ _ (by decide), e6, wr_ne _ _ _ (by decide), e5, wr_ne _ _ _ (by decide), i2.1 1 (by simp)]
    have p5 : t12.1 1 5 = nI n := by rw [e12, wr_at, upd_ne _ _ (by decide), c1]; exact N.1
    have p6 : t12.1 1 6 = nI (m + 1) := by rw [e12, wr_at, upd_at, c1, N.2.1, nI_1]
    have F12 : frL [1, 11, 12, 13, 14, 15] σ t12 := by
      rw [e12, e11, e10, e9, e8, e7, e6, e5]
      exact frL_tr (frL_mono i2 (by simp)) (frL_tr (frL_wr (by simp)) (frL_tr (frL_wr (by simp)) (frL_tr (frL_wr (by simp)) (frL_tr (frL_wr (by simp)) (frL_tr (frL_wr (by simp)) (frL_tr (frL_wr (by simp)) (frL_tr (frL_wr (by simp)) (frL_wr (by simp)))))))))
    have q11 : t12.1 11 = upd (σ.1 11) m (nI x) := by
      rw [e12, wr_ne _ _ _ (by decide), e11, wr_ne _ _ _ (by decide), e10, wr_ne _ _ _ (by decide), e9, wr_ne _ _ _ (by decide), e8, wr_ne _ _ _ (by decide), e7, wr_ne _ _ _ (by decide), e6, wr_ne _ _ _ (by decide), e5, wr_at, i2.1 11 (by simp)]
    have q12 : t12.1 12 = upd (σ.1 12) m (nI y) := by
      rw [e12, wr_ne _ _ _ (by decide), e11, wr_ne _ _ _ (by decide), e10, wr_ne _ _ _ (by decide), e9, wr_ne _ _ _ (by decide), e8, wr_ne _ _ _ (by decide), e7, wr_ne _ _ _ (by decide), e6, wr_at, e5, wr_ne _ _ _ (by decide), i2.1 12 (by simp)]
    have q13 : t12.1 13 = upd (τ.1 13) m (mk (fun k => inc a b k p || inc a b k q) m) := by
      rw [e12, wr_ne _ _ _ (by decide), e11, wr_ne _ _ _ (by decide), e10, wr_ne _ _ _ (by decide), e9, wr_ne _ _ _ (by decide), e8, wr_ne _ _ _ (by decide), e7, wr_at, e6, wr_ne _ _ _ (by decide), e5, wr_ne _ _ _ (by decide)]
    unfold f_X6_allLines
    rw [p6, mk_ones (by omega)]
    refine sc_most0 p5 n14 hn (by omega) ?_
    intro t15 e15
    refine h t15 ⟨?_, ?_, ?_, fun k hk => ?_, fun k hk => ?_, fun k hk => ?_, fun r hr => ?_, fun r hr => ?_⟩ ?_
    · rw [e15, wr_at, upd_ne _ _ (by decide)]; exact p5
    · rw [e15, wr_at, upd_ne _ _ (by decide)]; exact p6
    · rw [e15, wr_at, upd_at]
    · rw [e15, wr_ne _ _ _ (by decide), q11, upd_if]
      by_cases hkm : k = m
      · rw [if_pos hkm, hkm, snoc_at]
      · rw [if_neg hkm, snoc_lt (by omega)]; exact N.2.2.2.1 k (by omega)
    · rw [e15, wr_ne _ _ _ (by decide), q12, upd_if]
      by_cases hkm : k = m
      · rw [if_pos hkm, hkm, snoc_at]
      · rw [if_neg hkm, snoc_lt (by omega)]; exact N.2.2.2.2.1 k (by omega)
    · rw [e15, wr_ne _ _ _ (by decide), q13, upd_if]
      by_cases hkm : k = m
      · rw [if_pos hkm, hkm]
        have hs := mk_snoc (P := fun k => inc a b k p || inc a b k q) (P' := mts (snoc a m x) (snoc b m y) m) (m := m) (by omega) (fun j hj => by rw [mts_comm, snoc_mtsm hj, hor j])
        rw [if_neg (by unfold mts; simp)] at hs
        exact hs
      · rw [if_neg hkm, i1 k (by omega), if_pos (by omega)]
    · rw [e15, wr_ne _ _ _ (by decide)]; exact n14 r hr
    · rw [e15, wr_ne _ _ _ (by decide)]; exact n15 r hr
    · rw [e15]; exact frL_tr F12 (frL_wr (by simp))
