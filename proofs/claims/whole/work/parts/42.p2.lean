/-! pairs: list, of, grown, keep, unlike, back -/
theorem sc_fill {σ : kk_St} {A n : Nat} (hn : n ≤ 10000) {v : Int32} {Q : kk_St → Prop} (h : ∀ σ', (∀ i, i < n → σ'.1 A i = v) → (∀ i, n ≤ i → σ'.1 A i = σ.1 A i) → frL [A] σ σ' → Q σ') : f_J7_fill_53178 A n v σ Q := by
  unfold f_J7_fill_53178
  refine lf_2_0 n (by omega) (fun k τ => (∀ i, i < k → τ.1 A i = v) ∧ (∀ i, k ≤ i → τ.1 A i = σ.1 A i) ∧ frL [A] σ τ) (Nat.zero_le _) ⟨fun i hi => absurd hi (Nat.not_lt_zero _), fun _ _ => rfl, frL_rf⟩ ?_ ?_
  · rintro rec k τ hk ⟨i1, i2, i3⟩ hrec
    refine br_f (nI_ge hk (by omega)) ⟨vp_lt hk (by omega), ?_⟩
    intro ρ e
    rw [nI_clamp (by omega)] at e
    subst e
    refine hrec _ ⟨fun i hi => ?_, fun i hi => ?_, frL_tr i3 (frL_wr (by simp))⟩
    · rw [wr_at, upd_if]
      by_cases h : i = k
      · rw [if_pos h]
      · rw [if_neg h]; exact i1 i (by omega)
    · rw [wr_at, upd_ne _ _ (by omega)]; exact i2 i (by omega)
  · rintro rec τ ⟨i1, i2, i3⟩
    exact br_t (nI_le (Nat.le_refl _) (by omega)) (h τ i1 i2 i3)
theorem sc_clear {σ : kk_St} {m : Nat} (hm : m ≤ 20) {Q : kk_St → Prop} (h : ∀ σ', RK m (fun _ => -1) σ' → frL [16, 17] σ σ' → Q σ') : f_X3_clear σ Q := by
  unfold f_X3_clear
  refine sc_fill (by omega) (fun σ1 g1 _ F1 => ?_)
  refine sc_fill (by omega) (fun σ2 g2 _ F2 => ?_)
  refine h σ2 ⟨fun k hk => ?_, fun q hq => ?_⟩ (frL_tr (frL_mono F1 (by simp)) (frL_mono F2 (by simp)))
  · rw [F2.1 16 (by simp), g1 k hk]; split <;> rfl
  · rw [g2 q hq]
    symm
    exact (mk_eq0 (by omega)).mpr (fun k _ => by simp; exact fun z => nI_ne_m1 (by omega) z.symm)
theorem in_br {v : Int32} {x : Nat} (hx : x < 2 ^ 31) : (if (0 : Int32) ≤ v ∧ v ≤ nI x then (1 : Int32) else 0) = bI (!decide (v < 0) && decide (v ≤ nI x)) := by
  rw [bI_iteP]
  congr 1
  rw [← decide_not, ← Bool.decide_and]
  apply decide_eq_decide.mpr
  rw [Int32.le_iff_toInt_le, Int32.le_iff_toInt_le, Int32.lt_iff_toInt_lt]
  omega
theorem q_list : pr_list Rel := by
  rintro σ1 σ2 ⟨n, m, a, b, c, kp, ls, kf, gf, W, P, M, N, K, Z⟩ v1 v2
  have hm := W.2.2.1
  have same : Rel σ1 σ2 := ⟨n, m, a, b, c, kp, ls, kf, gf, W, P, M, N, K, Z⟩
  have e511 : (if (0 : Int32) ≤ v2 ∧ v2 ≤ (511 : Int32) then (1 : Int32) else 0) = bI (!decide (v2 < 0) && decide (v2 ≤ nI 511)) := in_br (x := 511) (by omega)
  unfold f_X10_list
  refine sc_isLine N hm ?_
  dsimp only [kk_j0]
  refine bI_zn (fun h1 => ?_) (fun h1 => ?_)
  · unfold f_X11_list
    refine sm_isLine M hm ?_
    rw [h1]
    exact br_t rfl ⟨rfl, same⟩
  · have modNo : (!decide (v2 < 0) && decide (v2 ≤ nI 511)) = false → f_X11_list v1 v2 σ2 (fun r' σ2' => -1 = r' ∧ Rel σ1 σ2') := by
      intro hz
      unfold f_X11_list
      refine sm_isLine M hm ?_
      rw [h1]
      refine br_f (by decide) (sp_in ?_)
      rw [e511, hz]
      exact jn_f rfl ⟨rfl, same⟩
    by_cases h2 : v2 < 0
    · exact br_t h2 (modNo (by rw [decide_eq_true h2]; rfl))
    · refine br_f h2 ?_
      by_cases h3 : v2 ≤ nI 511
      · refine br_t h3 ?_
        obtain ⟨k, hk, rfl⟩ := isIx_ex h1
        obtain ⟨x, hx, hv⟩ := nI_of2 (n := 511) rfl h2 h3
        refine ⟨vp_lt (by omega) (by omega), vp_lt (by omega) (by omega), ?_⟩
        intro τ1 e1
        unfold f_X7_forgetAnswer
        intro τ2 e2
        rw [nI_clamp (by omega)] at e1
        unfold f_X11_list
        refine sm_isLine M hm ?_
        rw [h1]
        refine br_f (by decide) (sp_in ?_)
        rw [e511, decide_eq_false h2, decide_eq_true h3]
        refine jn_t (by decide) ⟨vp_lt (by omega) (by omega), vp_lt (by omega) (by omega), ?_⟩
        intro τ3 e3
        rw [nI_clamp (by omega)] at e3
        obtain ⟨z1, z2, z3, z4⟩ := Z
        have F : frL [32, 7] σ1 τ2 := by rw [e2, e1]; exact frL_tr (frL_wr (by simp)) (frL_wr (by simp))
        have G : frF [4] [] σ2 τ3 := by rw [e3]; exact frF_c (by simp) (by decide)
        have t7 : ∀ i, i ≠ 4 → τ2.1 7 i = σ1.1 7 i := fun i hi => by rw [e2, wr_at, upd_ne _ _ hi, e1, wr_ne _ _ _ (by decide)]
        refine ⟨?_, n, m, a, b, c, kp, upd ls k v2, kf, gf, W, P, RM_fr M G (by simp) (by simp), RN_fr N F (by simp), RK_fr K F (by simp), ?_, ?_, ?_, ?_⟩
        · rw [rd_nI (by omega), rd_nI (by omega), (z3 k hk).1, (z3 k hk).2.1]
        · rw [F.1 0 (by simp), F.1 31 (by simp), G.2.1 8 (by simp), G.1 5 (by simp) (by decide)]; exact z1
        · rw [F.1 4 (by simp), F.1 19 (by simp), G.2.1 12 (by simp), G.1 7 (by simp) (by decide)]; exact z2
        · intro j hj
          rw [e2, wr_ne _ _ _ (by decide), e1, wr_at, e3, wr_at, upd_if, upd_if, upd_if]
          by_cases hjk : j = k
          · rw [if_pos hjk, if_pos hjk, if_pos hjk]; exact ⟨rfl, rfl, x, by omega, hv⟩
          · rw [if_neg hjk, if_neg hjk, if_neg hjk]; exact z3 j hj
        · refine ⟨?_, ?_, Or.inl ?_⟩
          · rw [t7 6 (by decide)]; exact z4.1
          · rw [t7 7 (by decide)]; exact z4.2.1
          · rw [e2, wr_at, upd_at]
      · exact br_f h3 (modNo (by rw [decide_eq_false h3, Bool.and_false]))
theorem q_grown : pr_grown Rel := by
  rintro σ1 σ2 ⟨n, m, a, b, c, kp, ls, kf, gf, W, P, M, N, K, Z⟩ v1
  have same : Rel σ1 σ2 := ⟨n, m, a, b, c, kp, ls, kf, gf, W, P, M, N, K, Z⟩
  obtain ⟨z1, ⟨y1, y2, y3⟩, z3, z4⟩ := Z
  have e4 : (if (0 : Int32) ≤ v1 ∧ v1 ≤ (4 : Int32) then (1 : Int32) else 0) = bI (!decide (v1 < 0) && decide (v1 ≤ nI 4)) := in_br (x := 4) (by omega)
  unfold f_X10_grown
  dsimp only [kk_j0]
  rw [y1]
  refine bI_zn (fun h1 => ?_) (fun h1 => ?_)
  · unfold f_X11_grown
    dsimp only [kk_j1, kk_j0]
    rw [y2, h1]
    exact br_t rfl ⟨rfl, same⟩
  · have modNo : (!decide (v1 < 0) && decide (v1 ≤ nI 4)) = false → f_X11_grown v1 σ2 (fun r' => -1 = r' ∧ Rel σ1 σ2) := by
      intro hz
      unfold f_X11_grown
      dsimp only [kk_j1, kk_j0]
      rw [y2, h1]
      refine br_f (by decide) (sp_in ?_)
      rw [e4, hz]
      exact br_t rfl ⟨rfl, same⟩
    by_cases h2 : v1 < 0
    · exact br_t h2 (modNo (by rw [decide_eq_true h2]; rfl))
    · refine br_f h2 ?_
      obtain ⟨x, hx, rfl⟩ := nI_of h2
      by_cases h3 : x < 5
      · refine br_t (nI_lt (b := 5) h3 (by omega)) ⟨vp_lt h3 (by omega), ?_⟩
        unfold f_X11_grown
        dsimp only [kk_j1, kk_j0]
        rw [y2, h1]
        refine br_f (by decide) (sp_in ?_)
        rw [e4, decide_eq_false h2, decide_eq_true (show nI x ≤ nI 4 from nI_le (by omega) (by omega))]
        refine br_f (by decide) ⟨vp_lt h3 (by omega), ?_, same⟩
        rw [rd_nI (by omega), rd_nI (by omega)]
        exact y3 h1 x h3
      · refine br_f (nI_nlt (b := 5) (by omega) (by omega)) (modNo ?_)
        rw [decide_eq_false (show ¬ nI x ≤ nI 4 from nI_ge (by omega) (by omega)), Bool.and_false]
theorem doMeet_eq {m : Nat} {a b : Nat → Nat} {k j : Nat} (h : k ≠ j) : (inc a b k (a j) || inc a b k (b j)) = mts a b k j := by
  unfold mts; rw [decide_eq_false h]; rfl
theorem sm_doMeet {n m : Nat} {a b : Nat → Nat} {c : Nat → Int32} {σ : kk_St} (M : RM n m a b c σ) (W : Wf n m a b) {k j : Nat} (hk : k < m) (hj : j < m) {Q : Int32 → Prop} (h : Q (bI (inc a b k (a j) || inc a b k (b j)))) : f_X11_doMeet (nI k) (nI j) σ Q := by
  have hm := W.2.2.1
  have hn := W.2.1
  have hw := W.2.2.2.1 j hj
  unfold f_X11_doMeet
  refine ⟨vp_lt (by omega) (by omega), ?_⟩
  rw [rd_nI (by omega), rd_nI (by omega), M.2.2.1 j hj, M.2.2.2.1 j hj]
  refine sm_isAt M W hk (by omega) ?_
  dsimp only [kk_j1, kk_j0]
  refine bI_nz (fun h1 => ?_) (fun h1 => ?_)
  · rw [h1] at h; exact ⟨Or.inr rfl, h⟩
  · refine ⟨vp_lt (by omega) (by omega), ?_⟩
    refine sm_isAt M W hk (by omega) ?_
    rw [h1, Bool.false_or] at h
    refine bI_zn (fun h2 => ?_) (fun h2 => ?_)
    · rw [h2] at h; exact ⟨Or.inl rfl, h⟩
    · rw [h2] at h; exact ⟨Or.inr rfl, h⟩
theorem sw_out {v : Int32} {i : Nat} {N : Int} (hN : N ≤ 1000) (h : v = nI i) (hi : (i : Int) < N) : ¬ (v.toInt < 0 ∨ N ≤ v.toInt) := by
  have hi' : i < 2 ^ 31 := by omega
  rw [h, nI_toInt hi']
  omega
theorem sw_ne {v : Int32} {i j : Nat} (h : v = nI i) (hi : i < 1000) (hj : j < 1000) (hij : i ≠ j) : ¬ v = nI j := by
  rw [h, nI_ne (by omega) (by omega)]; exact hij
theorem sw_big {v : Int32} {j : Nat} {N : Int} (h : v.toInt < 0 ∨ N ≤ v.toInt) (hj : (j : Int) < N) (hN : N ≤ 1000) : ¬ v = nI j := fun z => sw_out hN z hj h
theorem q_of : pr_of Rel := by
  rintro σ1 σ2 ⟨n, m, a, b, c, kp, ls, kf, gf, W, P, M, N, K, Z⟩ v1 v2
  have hm := W.2.2.1
  have same : Rel σ1 σ2 := ⟨n, m, a, b, c, kp, ls, kf, gf, W, P, M, N, K, Z⟩
  unfold f_X10_of
  refine sc_isLine N hm ?_
  refine bI_nz (fun h1 => ?_) (fun h1 => ?_)
  · obtain ⟨k, hk, rfl⟩ := isIx_ex h1
    have mod : ∀ {Q : Int32 → Prop}, (v2 = nI 0 → Q (nI (a k))) → (v2 = nI 1 → Q (nI (b k))) → (v2 = nI 2 → Q (if c k = -1 then -2 else c k)) → (v2 = nI 3 → Q (mk (mts a b k) m)) → (v2.toInt < 0 ∨ (4 : Int) ≤ v2.toInt → Q (-1)) → f_X11_of (nI k) v2 σ2 Q := by
      intro Q g0 g1 g2 g3 g4
      unfold f_X11_of
      refine sm_isLine M hm ?_
      rw [h1]
      refine jn_t (by decide) ⟨fun z => ⟨vp_lt (by omega) (by omega), ?_⟩, fun z => ⟨vp_lt (by omega) (by omega), ?_⟩, fun z => ⟨vp_lt (by omega) (by omega), ?_⟩, fun z => ?_, fun z => g4 z⟩
      · rw [rd_nI (by omega), M.2.2.1 k hk]; exact g0 z
      · rw [rd_nI (by omega), M.2.2.2.1 k hk]; exact g1 z
      · dsimp only [kk_j1]
        rw [rd_nI (by omega), M.2.2.2.2 k hk]
        have hq := g2 z
        rcases Pr9 W P k hk with hc | ⟨q, hq9, hc⟩
        · rw [if_pos hc] at hq
          exact br_f (by rw [hc]; decide) hq
        · rw [if_neg (by rw [hc]; exact nI_ne_m1 (by omega))] at hq
          exact br_t (by rw [hc]; exact nI_pos' (by omega)) ⟨vp_lt (by omega) (by omega), hq⟩
      · refine lf_2_1 m (by omega) (fun j x => x = mk (mts a b k) j) (Nat.zero_le _) rfl ?_ ?_
        · rintro rec j x hj rfl hrec
          refine br_f (by rw [M.2.1]; exact nI_ge hj (by omega)) ?_
          dsimp only [kk_j1]
          have hp := mk_push (mts a b k) (n := j) (by omega)
          by_cases hjk : j = k
          · refine br_t (by rw [hjk]) (hrec _ ?_)
            rw [← hp, if_neg]
            rw [hjk]; unfold mts; simp
          · refine br_f (by rw [nI_ne (by omega) (by omega)]; exact hjk) ?_
            refine sm_doMeet M W hj hk ?_
            rw [doMeet_eq (m := m) hjk, mts_comm]
            refine bI_zn (fun hz => hrec _ ?_) (fun hz x' hx' => hrec _ ?_)
            · rw [← hp, hz]; rfl
            · rw [← hp, hz, hx']; rfl
        · rintro rec x rfl
          exact br_t (by rw [M.2.1]; exact nI_le (Nat.le_refl _) (by omega)) (g3 z)
    refine ⟨fun z => ⟨vp_lt (by omega) (by omega), ?_⟩, fun z => ⟨vp_lt (by omega) (by omega), ?_⟩, fun z => ⟨vp_lt (by omega) (by omega), ?_⟩, fun z => ⟨vp_lt (by omega) (by omega), ?_⟩, fun z => ?_⟩
    · rw [rd_nI (by omega), N.2.2.2.1 k hk]
      exact mod (fun _ => ⟨rfl, same⟩) (fun y => absurd y (sw_ne z (by omega) (by omega) (by decide))) (fun y => absurd y (sw_ne z (by omega) (by omega) (by decide))) (fun y => absurd y (sw_ne z (by omega) (by omega) (by decide))) (fun y => absurd y (sw_out (by decide) z (by decide)))
    · rw [rd_nI (by omega), N.2.2.2.2.1 k hk]
      exact mod (fun y => absurd y (sw_ne z (by omega) (by omega) (by decide))) (fun _ => ⟨rfl, same⟩) (fun y => absurd y (sw_ne z (by omega) (by omega) (by decide))) (fun y => absurd y (sw_ne z (by omega) (by omega) (by decide))) (fun y => absurd y (sw_out (by decide) z (by decide)))
    · dsimp only [kk_j1]
      rw [rd_nI (by omega), K.1 k (by omega), if_pos hk]
      have fin : f_X11_of (nI k) v2 σ2 (fun r' => (if c k = -1 then -2 else c k) = r' ∧ Rel σ1 σ2) := mod (fun y => absurd y (sw_ne z (by omega) (by omega) (by decide))) (fun y => absurd y (sw_ne z (by omega) (by omega) (by decide))) (fun _ => ⟨rfl, same⟩) (fun y => absurd y (sw_ne z (by omega) (by omega) (by decide))) (fun y => absurd y (sw_out (by decide) z (by decide)))
      by_cases hc : c k = -1
      · rw [if_pos hc] at fin
        exact jn_f hc fin
      · rw [if_neg hc] at fin
        exact jn_t hc ⟨vp_lt (by omega) (by omega), fin⟩
    · rw [rd_nI (by omega), N.2.2.2.2.2.1 k hk]
      exact mod (fun y => absurd y (sw_ne z (by omega) (by omega) (by decide))) (fun y => absurd y (sw_ne z (by omega) (by omega) (by decide))) (fun y => absurd y (sw_ne z (by omega) (by omega) (by decide))) (fun _ => ⟨rfl, same⟩) (fun y => absurd y (sw_out (by decide) z (by decide)))
    · exact mod (fun y => absurd y (sw_big z (by decide) (by decide))) (fun y => absurd y (sw_big z (by decide) (by decide))) (fun y => absurd y (sw_big z (by decide) (by decide))) (fun y => absurd y (sw_big z (by decide) (by decide))) (fun _ => ⟨rfl, same⟩)
  · unfold f_X11_of
    refine sm_isLine M hm ?_
    rw [h1]
    exact jn_f rfl ⟨rfl, same⟩
theorem q_keep : pr_keep Rel := by
  rintro σ1 σ2 ⟨n, m, a, b, c, kp, ls, kf, gf, W, P, M, N, K, Z⟩ _
  have hm := W.2.2.1
  unfold f_X10_keep
  intro τ1 e1 τ2 e2
  unfold f_X11_keep
  refine lf_2_0 m (by omega) (fun k τ => (∀ j, j < k → τ.1 5 j = c j) ∧ frL [5] σ2 τ) (Nat.zero_le _) ⟨fun j hj => absurd hj (Nat.not_lt_zero _), frL_rf⟩ ?_ ?_
  · rintro rec k τ hk ⟨i1, i2⟩ hrec
    have l1 : τ.1 0 2 = nI m := by rw [i2.1 0 (by simp)]; exact M.2.1
    refine br_f (by rw [l1]; exact nI_ge hk (by omega)) ⟨vp_lt (by omega) (by omega), vp_lt (by omega) (by omega), ?_⟩
    intro ρ e
    rw [rd_nI (by omega), nI_clamp (by omega), i2.1 3 (by simp), M.2.2.2.2 k hk] at e
    subst e
    refine hrec _ ⟨fun j hj => ?_, frL_tr i2 (frL_wr (by simp))⟩
    rw [wr_at, upd_if]
    by_cases hjk : j = k
    · rw [if_pos hjk, hjk]
    · rw [if_neg hjk]; exact i1 j (by omega)
  · rintro rec τ ⟨i1, i2⟩
    have l1 : τ.1 0 2 = nI m := by rw [i2.1 0 (by simp)]; exact M.2.1
    refine br_t (by rw [l1]; exact nI_le (Nat.le_refl _) (by omega)) ?_
    intro ρ e
    refine ⟨rfl, ?_⟩
    obtain ⟨z1, z2, z3, z4⟩ := Z
    have G : frF [5] [8] σ2 ρ := by rw [e]; exact frF_tr (frF_L i2 (by simp)) (frF_f (by simp))
    have k31 : ∀ j, j < 20 → τ2.1 31 j = if j < m then c j else -1 := by
      intro j hj
      rw [e2, wr_ne _ _ _ (by decide), e1]
      show (if (31 : Nat) = 31 then va_cpy (σ1.1 16) (σ1.1 31) 0 0 (20 : Int32).toNatClampNeg else σ1.1 31) j = _
      rw [if_pos rfl, show (20 : Int32).toNatClampNeg = 20 from rfl]
      unfold va_cpy
      rw [if_pos ⟨Nat.zero_le _, by omega⟩, Nat.zero_add, Nat.sub_zero]
      exact K.1 j hj
    have F0 : ∀ q, q ≠ 31 → q ≠ 0 → τ2.1 q = σ1.1 q := by
      intro q h31 h0
      rw [e2, wr_ne _ _ _ h0, e1]
      show (if q = 31 then _ else σ1.1 q) = _
      rw [if_neg h31]
    have F : frL [31, 0] σ1 τ2 := ⟨fun q hq => F0 q (fun z => hq (by simp [z])) (fun z => hq (by simp [z])), by rw [e2, e1]; rfl⟩
    refine ⟨n, m, a, b, c, c, ls, true, gf, W, P, RM_fr M G (by simp) (by simp), RN_fr N F (by simp), RK_fr K F (by simp), ⟨?_, ?_, fun _ => ⟨P, fun k hk => ⟨?_, ?_⟩, fun k hk hk2 => ?_⟩⟩, ?_, ?_, CI_fr z4 (F0 7 (by decide) (by decide)) (F0 22 (by decide) (by decide))⟩
    · rw [e2, wr_at, upd_at]; rfl
    · rw [e, wr_at, upd_at]; rfl
    · rw [k31 k (by omega), if_pos hk]
    · rw [e, wr_ne _ _ _ (by decide)]; exact i1 k hk
    · rw [k31 k hk2, if_neg (by omega)]
    · rw [F0 4 (by decide) (by decide), F0 19 (by decide) (by decide), G.2.1 12 (by simp), G.1 7 (by simp) (by decide)]; exact z2
    · rw [F0 32 (by decide) (by decide), G.1 4 (by simp) (by decide)]; exact z3
