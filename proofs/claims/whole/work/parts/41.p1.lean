/-! pairs: paint, bare, turn, swap, list, of, grown, keep, unlike, back -/
theorem q_paint : pr_paint Rel := by
  rintro σ1 σ2 ⟨n, m, a, b, c, kp, ls, kf, gf, W, P, M, N, K, Z⟩ v1 v2
  have hm := W.2.2.1
  have hn := W.2.1
  have hD := Dg_le8 W
  have same : Rel σ1 σ2 := ⟨n, m, a, b, c, kp, ls, kf, gf, W, P, M, N, K, Z⟩
  unfold f_X10_paint
  refine sc_isLine N hm ?_
  dsimp only [kk_j0]
  refine bI_zn (fun h1 => ?_) (fun h1 => ?_)
  · unfold f_X11_paint
    refine sm_isLine M hm ?_
    rw [h1]
    exact br_t rfl ⟨rfl, same⟩
  · obtain ⟨k, hk, rfl⟩ := isIx_ex h1
    have hw := W.2.2.2.1 k hk
    refine sc_isColour N W ?_
    refine bI_zn (fun h2 => ?_) (fun h2 => ?_)
    · unfold f_X11_paint
      refine sm_isLine M hm ?_
      rw [h1]
      refine br_f (by decide) ?_
      refine sm_isColour M W ?_
      rw [h2]
      exact br_t rfl ⟨rfl, same⟩
    · obtain ⟨q, hq, rfl⟩ := isIx_ex h2
      refine sc_freeAtBoth N K W hk ?_
      rw [z_bit _ (by omega), mk_bt _ _ (by omega), decide_eq_true hq, Bool.true_and, bI_ite]
      have mod : ∀ {Q : Int32 → kk_St → Prop}, ((usd m a b c (a k) (nI q) = true ∨ usd m a b c (b k) (nI q) = true) → Q 0 σ2) → (usd m a b c (a k) (nI q) = false → usd m a b c (b k) (nI q) = false → ∀ τ, τ = kk_wr σ2 3 k (nI q) → Q 1 τ) → f_X11_paint (nI k) (nI q) σ2 Q := by
        intro Q hq0 hq1
        unfold f_X11_paint
        refine sm_isLine M hm ?_
        rw [h1]
        refine br_f (by decide) ?_
        refine sm_isColour M W ?_
        rw [h2]
        refine br_f (by decide) ⟨vp_lt (by omega) (by omega), ?_⟩
        rw [rd_nI (by omega), rd_nI (by omega), M.2.2.1 k hk, M.2.2.2.1 k hk]
        refine sm_isFreeAt M W (by omega) ?_
        cases u1 : usd m a b c (a k) (nI q) with
        | true => exact br_t rfl (hq0 (Or.inl u1))
        | false =>
          refine br_f (by decide) ⟨vp_lt (by omega) (by omega), ?_⟩
          refine sm_isFreeAt M W (by omega) ?_
          cases u2 : usd m a b c (b k) (nI q) with
          | true => exact jn_f rfl (hq0 (Or.inr u2))
          | false =>
            refine jn_t (by decide) ⟨vp_lt (by omega) (by omega), ?_⟩
            rw [nI_clamp (by omega)]
            exact hq1 u1 u2
      refine bI_nz (fun hu => ?_) (fun hu => ?_)
      · simp only [Bool.and_eq_true, Bool.not_eq_true'] at hu
        refine sc_give K (Pr9 W P) hm hk (by omega) (fun σ1' K' F' => ?_)
        refine mod (fun hz => ?_) (fun _ _ τ e => ⟨rfl, ?_⟩)
        · rcases hz with hz | hz
          · rw [hu.1] at hz; cases hz
          · rw [hu.2] at hz; cases hz
        · subst e
          have fr : frF [3] [] σ2 (kk_wr σ2 3 k (nI q)) := frF_c (by simp) (by decide)
          refine ⟨n, m, a, b, upd c k (nI q), kp, ls, kf, gf, W, Pr_upd P (Or.inr ⟨q, by omega, rfl⟩) (fun j hj hmt he => absurd he (free_both hu.1 hu.2 j hj hmt)), RM_col M fr (by simp) (by simp) (fun j hj => ?_), RN_fr N F' (by simp), K', Rest_fr Z F' fr (by simp) (by simp) (by simp)⟩
          rw [wr_at, upd_if, upd_if, M.2.2.2.2 j hj]
      · refine mod (fun _ => ⟨rfl, same⟩) (fun u1 u2 => ?_)
        rw [u1, u2] at hu; cases hu
theorem q_bare : pr_bare Rel := by
  rintro σ1 σ2 ⟨n, m, a, b, c, kp, ls, kf, gf, W, P, M, N, K, Z⟩ v1
  have hm := W.2.2.1
  have same : Rel σ1 σ2 := ⟨n, m, a, b, c, kp, ls, kf, gf, W, P, M, N, K, Z⟩
  unfold f_X10_bare
  refine sc_isLine N hm ?_
  dsimp only [kk_j0]
  refine bI_zn (fun h1 => ?_) (fun h1 => ?_)
  · unfold f_X11_bare
    refine sm_isLine M hm ?_
    rw [h1]
    exact jn_f rfl ⟨rfl, same⟩
  · obtain ⟨k, hk, rfl⟩ := isIx_ex h1
    refine ⟨vp_lt (by omega) (by omega), ?_⟩
    rw [rd_nI (by omega), K.1 k (by omega), if_pos hk]
    have fr : frF [3] [] σ2 (kk_wr σ2 3 k (-1)) := frF_c (by simp) (by decide)
    have mod : ∀ {Q : Int32 → kk_St → Prop}, Q (c k) (kk_wr σ2 3 k (-1)) → f_X11_bare (nI k) σ2 Q := by
      intro Q hq
      unfold f_X11_bare
      refine sm_isLine M hm ?_
      rw [h1]
      refine jn_t (by decide) ⟨vp_lt (by omega) (by omega), vp_lt (by omega) (by omega), ?_⟩
      intro τ e
      rw [nI_clamp (by omega)] at e
      rw [rd_nI (by omega), M.2.2.2.2 k hk, e]
      exact hq
    have fin : ∀ σ1', RK m (upd c k (-1)) σ1' → frL [16, 17] σ1 σ1' → Rel σ1' (kk_wr σ2 3 k (-1)) := by
      intro σ1' K' F'
      refine ⟨n, m, a, b, upd c k (-1), kp, ls, kf, gf, W, Pr_upd P (Or.inl rfl) (fun _ _ _ _ => rfl), RM_col M fr (by simp) (by simp) (fun j hj => ?_), RN_fr N F' (by simp), K', Rest_fr Z F' fr (by simp) (by simp) (by simp)⟩
      rw [wr_at, upd_if, upd_if, M.2.2.2.2 j hj]
    by_cases hc : c k = -1
    · refine jn_f hc (mod ⟨hc.symm, fin σ1 (RK_cong K (fun j hj => ?_)) frL_rf⟩)
      rw [upd_if]
      by_cases h : j = k
      · rw [if_pos h, h]; exact hc
      · rw [if_neg h]
    · refine jn_t hc ⟨vp_lt (by omega) (by omega), ?_⟩
      exact sc_strip K (Pr9 W P) hm hk (fun σ1' K' F' => mod ⟨rfl, fin σ1' K' F'⟩)
/-- a chain turned, or two colours exchanged everywhere: still a colouring -/
theorem Pr_flp {n m : Nat} {a b : Nat → Nat} {c : Nat → Int32} (P : Pr n m a b c) {S : Nat → Bool} {o w : Nat} (ho : o ≤ Dg n m a b) (hw : w ≤ Dg n m a b) (how : o ≠ w) (hD : Dg n m a b ≤ 8) (hS : ∀ k, k < m → S k = true → c k = nI o ∨ c k = nI w) (hcl : ∀ k j, k < m → j < m → S k = true → (c j = nI o ∨ c j = nI w) → mts a b k j = true → S j = true) : Pr n m a b (flp c S o w) := by
  have hno : ¬ nI o = nI w := by rw [nI_ne (by omega) (by omega)]; exact how
  refine ⟨fun k hk => ?_, fun i j hi hj hmt he => ?_⟩
  · unfold flp
    split
    · split
      · exact Or.inr ⟨w, hw, rfl⟩
      · exact Or.inr ⟨o, ho, rfl⟩
    · exact P.1 k hk
  · unfold flp at he ⊢
    cases hi' : S i with
    | true =>
      rw [hi'] at he
      simp only [if_true] at he ⊢
      exfalso
      cases hj' : S j with
      | true =>
        rw [hj'] at he
        simp only [if_true] at he
        have hcij : c i = c j := by
          rcases hS i hi hi' with z | z <;> rcases hS j hj hj' with y | y
          · rw [z, y]
          · rw [z, y] at he; simp [hno, Ne.symm hno] at he
          · rw [z, y] at he; simp [hno, Ne.symm hno] at he
          · rw [z, y]
        have h1 := P.2 i j hi hj hmt hcij
        rcases hS i hi hi' with z | z
        · rw [z] at h1; exact nI_ne_m1 (by omega) h1
        · rw [z] at h1; exact nI_ne_m1 (by omega) h1
      | false =>
        rw [hj'] at he
        simp only [Bool.false_eq_true, if_false] at he
        have : c j = nI o ∨ c j = nI w := by
          rw [← he]
          split
          · exact Or.inr rfl
          · exact Or.inl rfl
        rw [hcl i j hi hj hi' this hmt] at hj'
        cases hj'
    | false =>
      rw [hi'] at he
      simp only [Bool.false_eq_true, if_false] at he ⊢
      cases hj' : S j with
      | true =>
        rw [hj'] at he
        simp only [if_true] at he
        have : c i = nI o ∨ c i = nI w := by
          rw [he]
          split
          · exact Or.inr rfl
          · exact Or.inl rfl
        rw [hcl j i hj hi hj' this (by rw [mts_comm]; exact hmt)] at hi'
        cases hi'
      | false =>
        rw [hj'] at he
        simp only [Bool.false_eq_true, if_false] at he
        exact P.2 i j hi hj hmt he
theorem pool_or {c : Nat → Int32} {o w k : Nat} (h : (decide (c k = nI o) || decide (c k = nI w)) = true) : c k = nI o ∨ c k = nI w := by simpa using h
theorem chain_flp {n m : Nat} {a b : Nat → Nat} {c : Nat → Int32} (P : Pr n m a b c) {s : Nat → Bool} {o w : Nat} (ho : o ≤ Dg n m a b) (hw : w ≤ Dg n m a b) (how : o ≠ w) (hD : Dg n m a b ≤ 8) : Pr n m a b (flp c (rch m a b (fun k => decide (c k = nI o) || decide (c k = nI w)) s) o w) :=
  Pr_flp P ho hw how hD (fun k _ hk => pool_or (rch_pool hk)) (fun k j hk hj hs hc hmt => rch_step hs hj (by simpa using hc) hmt)
theorem q_turn : pr_turn Rel := by
  rintro σ1 σ2 ⟨n, m, a, b, c, kp, ls, kf, gf, W, P, M, N, K, Z⟩ v1 v2 v3
  have hm := W.2.2.1
  have hn := W.2.1
  have hD := Dg_le8 W
  have same : Rel σ1 σ2 := ⟨n, m, a, b, c, kp, ls, kf, gf, W, P, M, N, K, Z⟩
  unfold f_X10_turn
  refine sc_isPost N hn ?_
  dsimp only [kk_j0]
  refine bI_zn (fun h1 => ?_) (fun h1 => ?_)
  · unfold f_X11_turn
    refine sm_isChain M W ?_
    rw [h1]
    exact jn_f rfl ⟨rfl, same⟩
  · refine sc_areUnlike N W ?_
    refine bI_nz (fun h2 => ?_) (fun h2 => ?_)
    · obtain ⟨p, hp, rfl⟩ := isIx_ex h1
      have h2' := h2
      rw [Bool.and_eq_true, Bool.and_eq_true] at h2'
      obtain ⟨e1, e2, e3⟩ := h2'
      obtain ⟨o, ho, rfl⟩ := isIx_ex e1
      obtain ⟨w, hw, rfl⟩ := isIx_ex e2
      have how : o ≠ w := fun z => by rw [z] at e3; simp at e3
      refine sc_chainOf N K hm (by omega) (by omega) (by omega) ?_
      refine sc_flip N K hm (by omega) (by omega) how (fun k _ hk => pool_or (rch_pool hk)) (fun σ1' K' F' => ?_)
      refine sp_bitCountM (by omega) ?_
      unfold f_X11_turn
      refine sm_isChain M W ?_
      rw [h1, h2]
      refine jn_t (by decide) ?_
      refine sm_chainIn M W (by decide) M.2.2.2.2 (by omega) (fun τ F2 _ => ?_)
      have M2 := RM_fr M F2 (by simp) (by simp)
      refine sm_flips hm (by omega) (by omega) M2.2.2.2.2 (fun k _ hk => pool_or (rch_pool hk)) (fun τ' g1 g2 F3 => ?_)
      refine sp_bitsOfM (by omega) ⟨rfl, ?_⟩
      have FF : frF [3] [9] σ2 τ' := frF_tr (frF_mono F2 (by simp) (by simp)) (frF_L F3 (by simp))
      exact ⟨n, m, a, b, _, kp, ls, kf, gf, W, chain_flp P (by omega) (by omega) how hD, RM_col M FF (by simp) (by simp) g1, RN_fr N F' (by simp), K', Rest_fr Z F' FF (by simp) (by simp) (by simp)⟩
    · unfold f_X11_turn
      refine sm_isChain M W ?_
      rw [h1, h2]
      exact jn_f rfl ⟨rfl, same⟩
/-- the reference's swaps -/
theorem sm_swaps {n m : Nat} {a b : Nat → Nat} {c : Nat → Int32} {σ : kk_St} (M : RM n m a b c σ) (hm : m ≤ 20) {o w : Nat} (ho : o < 1000) (hw : w < 1000) {Q : Int32 → kk_St → Prop} (h : ∀ τ, RM n m a b (flp c (fun k => decide (c k = nI o) || decide (c k = nI w)) o w) τ → frL [3] σ τ → Q (nI (fb_ct (fun k => decide (c k = nI o) || decide (c k = nI w)) m)) τ) : f_X11_swaps (nI o) (nI w) σ Q := by
  unfold f_X11_swaps
  generalize hS : (fun k => decide (c k = nI o) || decide (c k = nI w)) = S at h
  have hS' : ∀ k, S k = (decide (c k = nI o) || decide (c k = nI w)) := fun k => by rw [← hS]
  refine lf_3_1 m (by omega) (fun k x τ => x = nI (fb_ct S k) ∧ (∀ j, j < m → τ.1 3 j = if j < k then flp c S o w j else c j) ∧ frL [3] σ τ) (Nat.zero_le _) ⟨rfl, fun j hj => by rw [M.2.2.2.2 j hj]; simp, frL_rf⟩ ?_ ?_
  · rintro rec k x τ hk ⟨rfl, i1, i2⟩ hrec
    have l1 : τ.1 0 2 = nI m := by rw [i2.1 0 (by simp)]; exact M.2.1
    refine br_f (by rw [l1]; exact nI_ge hk (by omega)) ⟨vp_lt (by omega) (by omega), ?_⟩
    dsimp only [kk_j2, kk_j0]
    rw [rd_nI (by omega), i1 k hk, if_neg (Nat.lt_irrefl _)]
    have take : S k = true → vp_in (nI k) 20 ∧ vp_in (nI k) 20 ∧ ∀ σ_9 : kk_St, σ_9 = kk_wr τ 3 (nI k).toNatClampNeg (nI o + nI w - c k) → rec (nI (fb_ct S k) + 1) (nI k + 1) σ_9 := by
      intro hs
      refine ⟨vp_lt (by omega) (by omega), vp_lt (by omega) (by omega), ?_⟩
      intro ρ e
      rw [nI_clamp (by omega)] at e
      subst e
      refine hrec _ _ ⟨by rw [fb_ct_succ, hs, nI_1]; rfl, fun j hj => ?_, frL_tr i2 (frL_wr (by simp))⟩
      rw [wr_at, upd_if]
      by_cases hjk : j = k
      · subst hjk
        rw [if_pos rfl, if_pos (by omega)]
        unfold flp
        rw [hs, if_pos rfl]
        rw [hS'] at hs
        rcases pool_or hs with z | z
        · rw [if_pos z, z, nI_add, z_sub (by omega)]; congr 1; omega
        · by_cases zo : c j = nI o
          · have e2 : nI o = nI w := zo.symm.trans z
            rw [nI_ne (by omega) (by omega)] at e2
            rw [if_pos zo, z, nI_add, z_sub (by omega)]; congr 1; omega
          · rw [if_neg zo, z, nI_add, z_sub (by omega)]; congr 1; omega
      · rw [if_neg hjk, i1 j hj]
        by_cases hlt : j < k
        · rw [if_pos hlt, if_pos (by omega)]
        · rw [if_neg hlt, if_neg (by omega)]
    by_cases h1 : c k = nI o
    · exact br_t h1 (take (by rw [hS', decide_eq_true h1]; rfl))
    · refine br_f h1 ⟨vp_lt (by omega) (by omega), ?_⟩
      by_cases h2 : c k = nI w
      · exact br_t h2 (take (by rw [hS', decide_eq_true h2, Bool.or_true]))
      · have hs : S k = false := by rw [hS', decide_eq_false h1, decide_eq_false h2]; rfl
        refine br_f h2 (hrec _ _ ⟨by rw [fb_ct_succ, hs]; simp, fun j hj => ?_, i2⟩)
        rw [i1 j hj]
        by_cases hjk : j = k
        · subst hjk
          rw [if_neg (Nat.lt_irrefl _), if_pos (by omega)]
          unfold flp; rw [hs]; simp
        · by_cases hlt : j < k
          · rw [if_pos hlt, if_pos (by omega)]
          · rw [if_neg hlt, if_neg (by omega)]
  · rintro rec x τ ⟨rfl, i1, i2⟩
    have l1 : τ.1 0 2 = nI m := by rw [i2.1 0 (by simp)]; exact M.2.1
    refine br_t (by rw [l1]; exact nI_le (Nat.le_refl _) (by omega)) (h τ (RM_col M (frF_L (F := []) i2 (by simp)) (by simp) (by simp) (fun k hk => by rw [i1 k hk, if_pos hk])) i2)
theorem q_swap : pr_swap Rel := by
  rintro σ1 σ2 ⟨n, m, a, b, c, kp, ls, kf, gf, W, P, M, N, K, Z⟩ v2 v3
  have hm := W.2.2.1
  have hn := W.2.1
  have hD := Dg_le8 W
  have same : Rel σ1 σ2 := ⟨n, m, a, b, c, kp, ls, kf, gf, W, P, M, N, K, Z⟩
  unfold f_X10_swap
  refine sc_areUnlike N W ?_
  refine bI_nz (fun h2 => ?_) (fun h2 => ?_)
  · have h2' := h2
    rw [Bool.and_eq_true, Bool.and_eq_true] at h2'
    obtain ⟨e1, e2, e3⟩ := h2'
    obtain ⟨o, ho, rfl⟩ := isIx_ex e1
    obtain ⟨w, hw, rfl⟩ := isIx_ex e2
    have how : o ≠ w := fun z => by rw [z] at e3; simp at e3
    refine ⟨vp_lt (by omega) (by omega), vp_lt (by omega) (by omega), ?_⟩
    intro x hx
    rw [rd_nI (by omega), rd_nI (by omega), K.2 o (by omega), K.2 w (by omega), mk_or] at hx
    subst hx
    refine sc_flip N K hm (by omega) (by omega) how (fun k _ hk => pool_or hk) (fun σ1' K' F' => ?_)
    refine sp_bitCountM (by omega) ?_
    unfold f_X11_swap
    refine sm_areColours M W ?_
    rw [h2]
    refine jn_t (by decide) ?_
    refine sm_swaps M hm (by omega) (by omega) (fun τ M' F3 => ⟨rfl, ?_⟩)
    refine ⟨n, m, a, b, _, kp, ls, kf, gf, W, Pr_flp P (by omega) (by omega) how hD (fun k _ hk => pool_or hk) (fun k j _ _ _ hc _ => by simpa using hc), M', RN_fr N F' (by simp), K', Rest_fr Z F' (frF_L (F := []) F3 (by simp)) (by simp) (by simp) (by simp)⟩
  · unfold f_X11_swap
    refine sm_areColours M W ?_
    rw [h2]
    exact jn_f rfl ⟨rfl, same⟩
