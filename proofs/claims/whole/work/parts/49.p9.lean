/-! pair: longest, the two loops -/
section
variable {n m : Nat} {a b : Nat → Nat} {c : Nat → Int32} {σ : kk_St}
theorem sm_longest (M : RM n m a b c σ) (W : Wf n m a b) {v : Nat} (hv : v < 4) {Q : Int32 → kk_St → Prop}
    (h : ∀ τ, frF [] [9] σ τ → Q (if (lall m a b c (Dg n m a b) (Dg n m a b + 1)).1 = 0 then -2 else if v = 0 then nI (lall m a b c (Dg n m a b) (Dg n m a b + 1)).1 else if v = 1 then nI (lall m a b c (Dg n m a b) (Dg n m a b + 1)).2.1 else if v = 2 then nI (lall m a b c (Dg n m a b) (Dg n m a b + 1)).2.2.1 else nI (lall m a b c (Dg n m a b) (Dg n m a b + 1)).2.2.2) τ) : f_X11_longest (nI v) σ Q := by
  have hm := W.2.2.1
  have hn := W.2.1
  have hD := Dg_le8 W
  generalize hDe : Dg n m a b = D at *
  unfold f_X11_longest
  refine sp_in ?_
  rw [if_pos ⟨nI_le (a := 0) (by omega) (by omega), nI_le (b := 3) (by omega) (by omega)⟩]
  refine jn_t (by decide) ?_
  refine lf_6_4 (D + 1) (by omega) (fun k x2 x3 x4 x5 τ => x2 = nI (lall m a b c D k).1 ∧ x3 = nI (lall m a b c D k).2.1 ∧ x4 = nI (lall m a b c D k).2.2.1 ∧ x5 = nI (lall m a b c D k).2.2.2 ∧ frF [] [9] σ τ) (k0 := 0) (by omega) ⟨rfl, rfl, rfl, rfl, frF_rf⟩ ?_ ?_
  · rintro rec i x2 x3 x4 x5 τ hi ⟨rfl, rfl, rfl, rfl, F⟩ hrec
    have M2 := RM_fr M F (by simp) (by simp)
    refine sm_degree M2 W ?_
    rw [hDe]
    refine br_f (nI_nlt (by omega) (by omega)) ?_
    rw [nI_1]
    refine lf_6_4 (D + 1) (by omega) (fun k x2 x3 x4 x5 τ => i + 1 ≤ k ∧ x2 = nI (itl (fun j => lstp m a b c i j) (i + 1) k (lall m a b c D i)).1 ∧ x3 = nI (itl (fun j => lstp m a b c i j) (i + 1) k (lall m a b c D i)).2.1 ∧ x4 = nI (itl (fun j => lstp m a b c i j) (i + 1) k (lall m a b c D i)).2.2.1 ∧ x5 = nI (itl (fun j => lstp m a b c i j) (i + 1) k (lall m a b c D i)).2.2.2 ∧ frF [] [9] σ τ) (k0 := i + 1) (by omega) (by rw [itl_lo _ _ _ _ (Nat.le_refl _)]; exact ⟨Nat.le_refl _, rfl, rfl, rfl, rfl, F⟩) ?_ ?_
    · rintro rec2 j x2 x3 x4 x5 τ' hj ⟨hij, rfl, rfl, rfl, rfl, F'⟩ hrec2
      have M3 := RM_fr M F' (by simp) (by simp)
      refine sm_degree M3 W ?_
      rw [hDe]
      refine br_f (nI_nlt (by omega) (by omega)) ?_
      have step := itl_s (fun j => lstp m a b c i j) (lo := i + 1) (lall m a b c D i) hij
      have T1 := Lok_row (k := j) (D := D) (i := i) (Lok_all (m := m) (a := a) (b := b) (c := c) (D := D) (k := i) (by omega) hD) (by omega) (by omega) hD
      rw [step] at hrec2
      generalize itl (fun j => lstp m a b c i j) (i + 1) j (lall m a b c D i) = t at *
      unfold lstp at hrec2
      have hP : (fun k => decide (c k = nI i) || decide (c k = nI j)) = plw c i j := rfl
      have hPk : ∀ k, plw c i j k = (decide (c k = nI i) || decide (c k = nI j)) := fun _ => rfl
      generalize plw c i j = PP at *
      refine lf_6_4 m (by omega) (fun k x2 x3 x4 x5 τ => x2 = nI (if t.1 < (tp (lsz m a b PP) k).1 then ((tp (lsz m a b PP) k).1, i, j, (tp (lsz m a b PP) k).2) else t).1 ∧ x3 = nI (if t.1 < (tp (lsz m a b PP) k).1 then ((tp (lsz m a b PP) k).1, i, j, (tp (lsz m a b PP) k).2) else t).2.1 ∧ x4 = nI (if t.1 < (tp (lsz m a b PP) k).1 then ((tp (lsz m a b PP) k).1, i, j, (tp (lsz m a b PP) k).2) else t).2.2.1 ∧ x5 = nI (if t.1 < (tp (lsz m a b PP) k).1 then ((tp (lsz m a b PP) k).1, i, j, (tp (lsz m a b PP) k).2) else t).2.2.2 ∧ frF [] [9] σ τ) (k0 := 0) (by omega) ?_ ?_ ?_
      · rw [if_neg (by simp [tp])]
        exact ⟨rfl, rfl, rfl, rfl, F'⟩
      · rintro rec3 k x2 x3 x4 x5 τ2 hk ⟨e2, e3, e4, e5, F2⟩ hrec3
        have M4 := RM_fr M F2 (by simp) (by simp)
        have hw' := W.2.2.2.1 k hk
        refine br_f (by rw [M4.2.1]; exact nI_ge hk (by omega)) ⟨vp_lt (by omega) (by omega), ?_⟩
        dsimp only [kk_j5, kk_j0]
        rw [rd_nI (by omega), M4.2.2.2.2 k hk]
        have stay : (t.1 < lsz m a b PP k → lsz m a b PP k ≤ (tp (lsz m a b PP) k).1) → ∀ τ3, frF [] [9] σ τ3 → rec3 x2 x3 x4 x5 (nI k + 1) τ3 := by
          intro hz τ3 F3
          refine hrec3 _ _ _ _ _ ?_
          have e : (if t.1 < (tp (lsz m a b PP) (k + 1)).1 then ((tp (lsz m a b PP) (k + 1)).1, i, j, (tp (lsz m a b PP) (k + 1)).2) else t) = (if t.1 < (tp (lsz m a b PP) k).1 then ((tp (lsz m a b PP) k).1, i, j, (tp (lsz m a b PP) k).2) else t) := by
            rw [tp]
            by_cases h1 : (tp (lsz m a b PP) k).1 < lsz m a b PP k
            · rw [if_pos h1, if_neg, if_neg]
              · intro h2; have := hz (by omega); omega
              · intro h2
                have h2 : t.1 < lsz m a b PP k := h2
                have := hz h2; omega
            · rw [if_neg h1]
          rw [e]
          exact ⟨e2, e3, e4, e5, F3⟩
        have go : PP k = true → vp_in (nI k) 20 ∧ f_X11_chainIn 3 20 (kk_rd τ2 1 (nI k)) (nI i) (nI j) τ2 (fun r_38 σ_39 => f_X11_bitsOf r_38 (fun r_40 => (x2 < r_40 → f_X11_bitsOf r_38 (fun r_41 => f_X11_lowestOf r_38 (fun r_42 => rec3 r_41 (nI i) (nI j) r_42 (nI k + 1) σ_39))) ∧ (¬ x2 < r_40 → rec3 x2 x3 x4 x5 (nI k + 1) σ_39))) := by
          intro hp
          refine ⟨vp_lt (by omega) (by omega), ?_⟩
          rw [rd_nI (by omega), M4.2.2.1 k hk]
          refine sm_chainIn M4 W (by decide) M4.2.2.2.2 (by omega) (fun τ3 F3 _ => ?_)
          have F3 := frF_tr F2 F3
          rw [hP]
          have er : mk (rch m a b PP (fun l => inc a b l (a k))) m = mk (ch m a b PP k) m := mk_cong (fun l hl => (rch_post hk hp (inc_iff.mpr (Or.inl rfl)) l hl).symm)
          rw [er]
          have hsz : fb_ct (ch m a b PP k) m = lsz m a b PP k := by rw [lsz, if_pos hp]
          have hl1 : lsz m a b PP k ≤ m := lsz_le
          refine sp_bitsOfM (by omega) ?_
          rw [hsz, e2]
          by_cases h1 : t.1 < (tp (lsz m a b PP) k).1
          · have h9 : (tp (lsz m a b PP) k).1 ≤ m := by
              obtain ⟨_, h3, _⟩ := tp_at (lsz m a b PP) (k := k) (by omega)
              rw [← h3]; exact lsz_le
            rw [if_pos h1] at e2 ⊢
            by_cases h2 : (tp (lsz m a b PP) k).1 < lsz m a b PP k
            · refine br_t (nI_lt h2 (by omega)) ?_
              refine sp_bitsOfM (by omega) ?_
              refine sp_lowestOfM (by omega) hk (ch_rf hk hp) (lsz_low (fun l hl => ?_)) ?_
              · have := tp_ge (lsz m a b PP) hl
                omega
              refine hrec3 _ _ _ _ _ ?_
              rw [tp, if_pos h2, if_pos (show t.1 < (lsz m a b PP k, k).1 by show t.1 < lsz m a b PP k; omega), hsz]
              exact ⟨rfl, rfl, rfl, rfl, F3⟩
            · refine br_f (nI_nlt (by omega) (by omega)) ?_
              have := stay (fun _ => by omega) τ3 F3
              rw [e2] at this
              exact this
          · rw [if_neg h1] at e2 ⊢
            have h9 := T1.2.2.1
            by_cases h2 : t.1 < lsz m a b PP k
            · refine br_t (nI_lt h2 (by omega)) ?_
              refine sp_bitsOfM (by omega) ?_
              refine sp_lowestOfM (by omega) hk (ch_rf hk hp) (lsz_low (fun l hl => ?_)) ?_
              · have := tp_ge (lsz m a b PP) hl
                omega
              refine hrec3 _ _ _ _ _ ?_
              rw [tp, if_pos (show (tp (lsz m a b PP) k).1 < lsz m a b PP k by omega), if_pos (show t.1 < (lsz m a b PP k, k).1 from h2), hsz]
              exact ⟨rfl, rfl, rfl, rfl, F3⟩
            · refine br_f (nI_nlt (by omega) (by omega)) ?_
              have := stay (fun _ => by omega) τ3 F3
              rw [e2] at this
              exact this
        by_cases h1 : c k = nI i
        · exact br_t h1 (go (by rw [hPk, decide_eq_true h1]; rfl))
        · refine br_f h1 ⟨vp_lt (by omega) (by omega), ?_⟩
          by_cases h3 : c k = nI j
          · exact br_t h3 (go (by rw [hPk, decide_eq_true h3, Bool.or_true]))
          · refine br_f h3 (stay (fun hz => ?_) τ2 F2)
            have := lsz_pool (m := m) (a := a) (b := b) (P := PP) (k := k) (by omega)
            rw [hPk, decide_eq_false h1, decide_eq_false h3] at this
            cases this
      · rintro rec3 x2 x3 x4 x5 τ2 ⟨e2, e3, e4, e5, F2⟩
        have M4 := RM_fr M F2 (by simp) (by simp)
        refine br_t (by rw [M4.2.1]; exact nI_le (Nat.le_refl _) (by omega)) ?_
        exact hrec2 _ _ _ _ _ ⟨by omega, e2, e3, e4, e5, F2⟩
    · rintro rec2 x2 x3 x4 x5 τ' ⟨_, rfl, rfl, rfl, rfl, F'⟩
      have M3 := RM_fr M F' (by simp) (by simp)
      refine sm_degree M3 W ?_
      rw [hDe]
      refine br_t (nI_lt (by omega) (by omega)) ?_
      rw [← nI_1]
      refine hrec _ _ _ _ _ ?_
      unfold lall
      rw [itl_s _ _ (Nat.zero_le i)]
      exact ⟨rfl, rfl, rfl, rfl, F'⟩
  · rintro rec x2 x3 x4 x5 τ ⟨rfl, rfl, rfl, rfl, F⟩
    have M2 := RM_fr M F (by simp) (by simp)
    refine sm_degree M2 W ?_
    rw [hDe]
    refine br_t (nI_lt (by omega) (by omega)) ?_
    have L := Lok_all (m := m) (a := a) (b := b) (c := c) (Nat.le_refl (D + 1)) hD
    generalize lall m a b c D (D + 1) = t at *
    have h := h τ F
    dsimp only [kk_j1]
    have l1 := L.2.2.1
    have hz : ∀ x, x < 4 → (nI v = nI x ↔ v = x) := fun x hx => nI_ne (by omega) (by omega)
    have h0 : nI t.1 = 0 ↔ t.1 = 0 := nI_ne (j := 0) (by omega) (by omega)
    refine ⟨fun z => ⟨fun y => ⟨fun y1 => ⟨fun y2 => ?_, fun y2 => ?_⟩, fun y1 => ?_⟩, fun y => ?_⟩, fun z => ?_⟩
    · rw [if_neg (fun q => z (h0.mpr q)), if_neg (fun q => y ((hz 0 (by omega)).mpr q)), if_neg (fun q => y1 ((hz 1 (by omega)).mpr q)), if_neg (fun q => y2 ((hz 2 (by omega)).mpr q))] at h
      exact h
    · rw [if_neg (fun q => z (h0.mpr q)), if_neg (fun q => y ((hz 0 (by omega)).mpr q)), if_neg (fun q => y1 ((hz 1 (by omega)).mpr q)), if_pos ((hz 2 (by omega)).mp y2)] at h
      exact h
    · rw [if_neg (fun q => z (h0.mpr q)), if_neg (fun q => y ((hz 0 (by omega)).mpr q)), if_pos ((hz 1 (by omega)).mp y1)] at h
      exact h
    · rw [if_neg (fun q => z (h0.mpr q)), if_pos ((hz 0 (by omega)).mp y)] at h
      exact h
    · rw [if_pos (h0.mp z)] at h
      exact h
end
theorem q_longest : pr_longest Rel := by
  rintro σ1 σ2 ⟨n, m, a, b, c, kp, ls, kf, gf, W, P, M, N, K, Z⟩ v1
  have hm := W.2.2.1
  have hn := W.2.1
  have hD := Dg_le8 W
  have same : Rel σ1 σ2 := ⟨n, m, a, b, c, kp, ls, kf, gf, W, P, M, N, K, Z⟩
  have bad : (¬ ((0 : Int32) ≤ v1 ∧ v1 ≤ 3)) → f_X11_longest v1 σ2 (fun r' σ2' => (-1 : Int32) = r' ∧ Rel σ1 σ2') := by
    intro h
    unfold f_X11_longest
    refine sp_in ?_
    rw [if_neg h]
    exact jn_f rfl ⟨rfl, same⟩
  unfold f_X10_longest
  dsimp only [kk_j0]
  refine ⟨fun h => bad (fun z => Int32.not_lt.mpr z.1 h), fun h => ⟨fun h2 => ?_, fun h2 => bad (fun z => h2 z.2)⟩⟩
  obtain ⟨v, hv2, rfl⟩ := nI_of h
  have hv : v < 4 := by
    have := Int32.le_iff_toInt_le.mp h2
    rw [nI_toInt hv2, show (3 : Int32).toInt = 3 from rfl] at this
    omega
  generalize hDe : Dg n m a b = D at *
  have col : ∀ {Q : Int32 → Prop}, Q (nI (D + 1)) → f_X3_colours σ1 Q := by
    intro Q h
    unfold f_X3_colours
    rw [N.2.2.1, hDe, nI_1]; exact h
  refine lf_3_2 (D + 1) (by omega) (fun k x2 x3 => x2 = lmk m a b c (lall m a b c D k) ∧ x3 = nI ((lall m a b c D k).2.1 * 9 + (lall m a b c D k).2.2.1)) (k0 := 0) (by omega) ⟨?_, rfl⟩ ?_ ?_
  · exact ((mk_eq0 (by omega)).mpr (fun k _ => by simp [lall, itl])).symm
  · rintro rec i x2 x3 hi ⟨rfl, rfl⟩ hrec
    refine col ?_
    refine br_f (nI_ge hi (by omega)) ?_
    rw [nI_1]
    refine lf_3_2 (D + 1) (by omega) (fun k x2 x3 => i + 1 ≤ k ∧ x2 = lmk m a b c (itl (fun j => lstp m a b c i j) (i + 1) k (lall m a b c D i)) ∧ x3 = nI ((itl (fun j => lstp m a b c i j) (i + 1) k (lall m a b c D i)).2.1 * 9 + (itl (fun j => lstp m a b c i j) (i + 1) k (lall m a b c D i)).2.2.1)) (k0 := i + 1) (by omega) (by rw [itl_lo _ _ _ _ (Nat.le_refl _)]; exact ⟨Nat.le_refl _, rfl, rfl⟩) ?_ ?_
    · rintro rec2 j x2 x3 hj ⟨hij, rfl, rfl⟩ hrec2
      refine col ?_
      refine br_f (nI_ge hj (by omega)) ?_
      refine sc_longestChain N K hm (by omega) (by omega) ?_
      have step := itl_s (fun j => lstp m a b c i j) (lo := i + 1) (lall m a b c D i) hij
      have T1 := Lok_row (k := j) (D := D) (i := i) (Lok_all (m := m) (a := a) (b := b) (c := c) (D := D) (k := i) (by omega) hD) (by omega) (by omega) hD
      rw [step] at hrec2
      generalize itl (fun j => lstp m a b c i j) (i + 1) j (lall m a b c D i) = t at *
      have T0 : Lok m a b c ((tp (lsz m a b (plw c i j)) m).1, i, j, (tp (lsz m a b (plw c i j)) m).2) := by
        have z : Lok m a b c (0, 0, 0, 0) := ⟨by decide, by decide, by simp, fun h => absurd h (Nat.lt_irrefl _)⟩
        have := Lok_stp z (i := i) (j := j) (by omega) (by omega)
        unfold lstp at this
        by_cases h0 : 0 < (tp (lsz m a b (plw c i j)) m).1
        · rw [if_pos h0] at this
          exact this
        · exact ⟨by show i < 9; omega, by show j < 9; omega, by show (tp (lsz m a b (plw c i j)) m).1 ≤ m; omega, fun h => absurd h h0⟩
      unfold lstp at hrec2
      dsimp only [kk_j2]
      have c0 := lmk_ct T0
      have c1 := lmk_ct T1
      unfold lmk
      refine sp_bitCountM (by omega) ?_
      rw [c0]
      refine sp_bitCountM (by omega) ?_
      rw [c1]
      have b0 := T0.2.2.1
      have b1 := T1.2.2.1
      dsimp only at b0
      by_cases hlt : t.1 < (tp (lsz m a b (plw c i j)) m).1
      · rw [if_pos hlt] at hrec2
        refine br_f (nI_ge hlt (by omega)) ?_
        intro x ex
        refine hrec2 _ _ ⟨by omega, rfl, ?_⟩
        rw [ex, show (9 : Int32) = nI 9 from rfl, z_mul, ← nI_add]
      · rw [if_neg hlt] at hrec2
        refine br_t (nI_le (by omega) (by omega)) ?_
        exact hrec2 _ _ ⟨by omega, rfl, rfl⟩
    · rintro rec2 x2 x3 ⟨_, rfl, rfl⟩
      refine col ?_
      refine br_t (nI_le (Nat.le_refl _) (by omega)) ?_
      rw [← nI_1]
      refine hrec _ _ ?_
      unfold lall
      rw [itl_s _ _ (Nat.zero_le i)]
      exact ⟨rfl, rfl⟩
  · rintro rec x2 x3 ⟨rfl, rfl⟩
    refine col ?_
    refine br_t (nI_le (Nat.le_refl _) (by omega)) ?_
    have L := Lok_all (m := m) (a := a) (b := b) (c := c) (Nat.le_refl (D + 1)) hD
    have mod : ∀ r : Int32, r = (if (lall m a b c D (D + 1)).1 = 0 then -2 else if v = 0 then nI (lall m a b c D (D + 1)).1 else if v = 1 then nI (lall m a b c D (D + 1)).2.1 else if v = 2 then nI (lall m a b c D (D + 1)).2.2.1 else nI (lall m a b c D (D + 1)).2.2.2) → f_X11_longest (nI v) σ2 (fun r' σ2' => r = r' ∧ Rel σ1 σ2') := by
      intro r hr
      refine sm_longest M W hv (fun τ F => ?_)
      rw [hDe]
      refine ⟨hr, n, m, a, b, c, kp, ls, kf, gf, W, P, RM_fr M F (by simp) (by simp), N, K, Rest_fr Z (frL_rf (L := [])) F (by simp) (by simp) (by simp)⟩
    generalize lall m a b c D (D + 1) = t at *
    have l1 := L.2.2.1
    have ct := lmk_ct L
    have h0 : lmk m a b c t = 0 ↔ t.1 = 0 := by
      rw [← ct]
      unfold lmk
      rw [mk_eq0 (by omega), ct, fb_ct_zero.symm, ct]
    have hz : ∀ x, x < 4 → (nI v = nI x ↔ v = x) := fun x hx => nI_ne (by omega) (by omega)
    have dv : ∀ x : Nat, x < 81 → nI x / (9 : Int32) = nI (x / 9) ∧ nI x - nI x / (9 : Int32) * (9 : Int32) = nI (x % 9) := by decide
    obtain ⟨d1, d2⟩ := dv (t.2.1 * 9 + t.2.2.1) (by have := L.1; have := L.2.1; omega)
    have q1 : (t.2.1 * 9 + t.2.2.1) / 9 = t.2.1 := by have := L.1; have := L.2.1; omega
    have q2 : (t.2.1 * 9 + t.2.2.1) % 9 = t.2.2.1 := by have := L.1; have := L.2.1; omega
    refine ⟨fun z => ?_, fun z => mod _ (by rw [if_pos (h0.mp z)])⟩
    have z' : ¬ t.1 = 0 := fun q => z (h0.mpr q)
    refine ⟨fun y => ?_, fun y => ?_, fun y => ?_, fun y => ?_⟩
    · unfold lmk
      refine sp_bitCountM (by omega) (mod _ ?_)
      rw [if_neg z', if_pos ((hz 0 (by omega)).mp y), ct]
    · refine mod _ ?_
      have y := (hz 1 (by omega)).mp y
      rw [if_neg z', if_neg (by omega), if_pos y, d1, q1]
    · refine mod _ ?_
      have y := (hz 2 (by omega)).mp y
      rw [if_neg z', if_neg (by omega), if_neg (by omega), if_pos y, d2, q2]
    · rw [nI_toInt (by omega)] at y
      have y : v = 3 := by omega
      have L3 := L.2.2.2 (by omega)
      unfold lmk
      refine sp_ntzM (by omega) L3.1 (by rw [decide_eq_true (show 0 < t.1 by omega), ch_rf L3.1 L3.2.1]; rfl) (fun k hk => by rw [L3.2.2.2 k hk, Bool.and_false]) (mod _ ?_)
      rw [if_neg z', if_neg (by omega), if_neg (by omega), if_neg (by omega)]
