/-! the reference's fan, and the pair -/
section
variable {n m : Nat} {a b : Nat → Nat} {c : Nat → Int32} {σ : kk_St} {x : Nat}
theorem enc_cv {u : Int32} (h : u = -1 ∨ ∃ q, q < 9 ∧ u = nI q) : u = enc (cv u) ∧ cv u ≤ 9 := by
  rcases h with h | ⟨q, hq, h⟩
  · rw [h]; exact ⟨rfl, by decide⟩
  · rw [h, cv_nI hq]
    refine ⟨?_, by omega⟩
    unfold enc; rw [if_neg (by omega), Nat.add_sub_cancel]
theorem neg_lt (W : Wf n m a b) (P : Pr n m a b c) {k : Nat} (hk : k < m) : c k < 0 ↔ c k = -1 := by
  have := neg_iff W P hk
  constructor
  · intro h
    apply Classical.byContradiction
    intro z
    exact Int32.not_lt.mpr (this.mpr z) h
  · intro h
    rw [h]; decide
theorem sm_laysFan (M : RM n m a b c σ) (W : Wf n m a b) (P : Pr n m a b c) {k0 : Nat} (hk0 : k0 < m) (hi0 : inc a b k0 x = true) {Q : kk_St → Prop} (h : ∀ τ s, frF [6] [11] σ τ → Fsz m a b c x (far a b x k0) s → s ≤ 8 → τ.1 0 11 = nI s → (∀ j, j < s → τ.1 6 j = nI (fsT m a b c x (far a b x k0) j).1) → Q τ) : f_X11_laysFan (nI k0) (nI x) σ Q := by
  have hm := W.2.2.1
  have hn := W.2.1
  have h9 := Pr9 W P
  have hwk := W.2.2.2.1 k0 hk0
  have hx : x < n := by rcases inc_iff.mp hi0 with z | z <;> omega
  obtain ⟨f1, f2, f3⟩ := far_ok W hk0 hi0
  unfold f_X11_laysFan
  refine sm_otherEnd M W hk0 hi0 ?_
  have e0 : (if a k0 = x then b k0 else a k0) = far a b x k0 := rfl
  rw [e0]
  generalize far a b x k0 = y0 at *
  refine ⟨vp_lt (k := 0) (by omega) (by omega), ?_⟩
  intro σa ea σb eb
  have Fb : frF [6] [11] σ σb := by rw [eb, ea]; exact frF_tr (frF_c (by simp) (by decide)) (frF_f (by simp))
  have cl0 : Int32.toNatClampNeg (0 : Int32) = 0 := rfl
  rw [cl0] at ea
  have r0 : σb.1 6 0 = nI y0 := by rw [eb, wr_ne _ _ _ (by decide), ea, wr_at, upd_at]
  have s0 : σb.1 0 11 = nI 1 := by rw [eb, wr_at, upd_at]; rfl
  refine ⟨vp_lt (k := 0) (by omega) (by omega), ?_⟩
  intro u eu
  have eu : u = mk (fsT m a b c x y0 0).2 9 := by
    rw [eu, show (0 : Int32) = nI 0 from rfl, rd_nI (by omega), r0, mk_one (show y0 < 9 by omega) (by omega)]; rfl
  refine kk_lpI3 (fun v g τ => ∃ t, v = mk (fsT m a b c x y0 t).2 9 ∧ (∀ j, j < t → fln m a b c x y0 j < m) ∧ frF [6] [11] σ τ ∧ τ.1 0 11 = nI (t + 1) ∧ (∀ j, j < t + 1 → τ.1 6 j = nI (fsT m a b c x y0 j).1) ∧ (g = 1 ∨ (g = 0 ∧ ¬ fln m a b c x y0 t < m))) (fun _ g τ => if g = 0 then 0 else 10 - (τ.1 0 11).toNatClampNeg) ?_ ⟨0, eu, fun j hj => absurd hj (Nat.not_lt_zero _), Fb, s0, fun j hj => by rw [show j = 0 by omega]; exact r0, Or.inl rfl⟩
  rintro rec v g τ ⟨t, rfl, i3, F, i4, i5, hg⟩ hrec
  obtain ⟨g1, g2, g3, g4, g5, g6⟩ := fan_inv (c := c) W hx f1 f2 t i3
  rcases hg with rfl | ⟨rfl, hno⟩
  · have M2 := RM_fr M F (by simp) (by simp)
    refine br_f (by decide) ?_
    have es : nI (t + 1) - 1 = nI t := by rw [show (1 : Int32) = nI 1 from rfl, z_sub (by omega), Nat.add_sub_cancel]
    rw [i4, es]
    refine ⟨vp_lt (by omega) (by omega), ?_⟩
    intro y ey
    rw [rd_nI (by omega), i5 t (by omega)] at ey
    subst ey
    generalize hU : (fsT m a b c x y0 t).2 = U at *
    generalize hy : (fsT m a b c x y0 t).1 = y at *
    have hfl : fln m a b c x y0 t = fol m a b c x y U := by unfold fln; rw [hU, hy]
    refine lf_2_1 m (by omega) (fun k z => (z = -1 ∧ ∀ j, j < k → cnd m a b c x y U j = false) ∨ ∃ q, q < k ∧ z = nI q ∧ cnd m a b c x y U q = true ∧ ∀ j, j < k → cnd m a b c x y U j = true → cv (c q) ≤ cv (c j)) (k0 := 0) (by omega) (Or.inl ⟨rfl, fun j hj => absurd hj (Nat.not_lt_zero _)⟩) ?_ ?_
    · rintro rec2 k z hk hI hrec2
      have hwk' := W.2.2.2.1 k hk
      refine br_f (by rw [M2.2.1]; exact nI_ge hk (by omega)) ?_
      refine sm_isAt M2 W hk (by omega) ?_
      dsimp only [kk_j1, kk_j0]
      have skip : cnd m a b c x y U k = false → rec2 z (nI k + 1) := by
        intro hc
        refine hrec2 _ ?_
        rcases hI with ⟨e1, e2⟩ | ⟨q, q1, q2, q3, q4⟩
        · left
          refine ⟨e1, fun j hj => ?_⟩
          by_cases w : j = k
          · rw [w]; exact hc
          · exact e2 j (by omega)
        · right
          refine ⟨q, by omega, q2, q3, fun j hj hcj => ?_⟩
          by_cases w : j = k
          · rw [w, hc] at hcj; cases hcj
          · exact q4 j (by omega) hcj
      refine bI_zn (fun hi => skip (by unfold cnd; rw [hi]; rfl)) (fun hi => ⟨vp_lt (by omega) (by omega), ?_⟩)
      rw [rd_nI (by omega), M2.2.2.2.2 k hk]
      refine ⟨fun hc => skip ?_, fun hc => ?_⟩
      · have := (neg_lt W P hk).mp hc
        unfold cnd; rw [decide_eq_true this]; simp
      · have hc : c k ≠ -1 := fun w => hc ((neg_lt W P hk).mpr w)
        refine sm_otherEnd M2 W hk hi ?_
        obtain ⟨w1, w2, w3⟩ := far_ok W hk hi
        have ef : (if a k = x then b k else a k) = far a b x k := rfl
        rw [ef]
        refine sp_hasM (by omega) (by omega) ?_
        rw [bI_ite]
        refine bI_nz (fun hu => skip (by unfold cnd; rw [hu]; simp)) (fun hu => ⟨vp_lt (by omega) (by omega), ?_⟩)
        refine sm_isFreeAt M2 W (by omega) ?_
        refine bI_nz (fun hf => ?_) (fun hf => skip (by unfold cnd; rw [hf]; simp))
        have hck : cnd m a b c x y U k = true := cnd_iff.mpr ⟨hi, hc, hu, by simpa using hf⟩
        have take : (∀ j, j < k → cnd m a b c x y U j = true → cv (c k) ≤ cv (c j)) → rec2 (nI k) (nI k + 1) := by
          intro hz
          refine hrec2 _ (Or.inr ⟨k, by omega, rfl, hck, fun j hj hcj => ?_⟩)
          by_cases w : j = k
          · rw [w]; exact Nat.le_refl _
          · exact hz j (by omega) hcj
        rcases hI with ⟨e1, e2⟩ | ⟨q, q1, q2, q3, q4⟩
        · refine br_t e1 (take (fun j hj hcj => ?_))
          rw [e2 j hj] at hcj; cases hcj
        · rw [q2]
          refine br_f (nI_ne_m1 (by omega)) ⟨vp_lt (by omega) (by omega), vp_lt (by omega) (by omega), ?_⟩
          rw [rd_nI (by omega), M2.2.2.2.2 q (by omega)]
          obtain ⟨n1, n2⟩ := enc_cv (h9 q (by omega))
          obtain ⟨n3, n4⟩ := enc_cv (h9 k hk)
          have hcmp : c q ≤ c k ↔ cv (c q) ≤ cv (c k) := by
            rw [← enc_le n2 n4, ← n1, ← n3]
          refine ⟨fun w => ?_, fun w => take (fun j hj hcj => ?_)⟩
          · have w := hcmp.mp w
            refine hrec2 _ (Or.inr ⟨q, by omega, rfl, q3, fun j hj hcj => ?_⟩)
            by_cases v : j = k
            · rw [v]; exact w
            · exact q4 j (by omega) hcj
          · have w : ¬ cv (c q) ≤ cv (c k) := fun v => w (hcmp.mpr v)
            have := q4 j hj hcj
            omega
    · rintro rec2 z hI
      refine br_t (by rw [M2.2.1]; exact nI_le (Nat.le_refl _) (by omega)) ?_
      dsimp only [kk_j1]
      rcases hI with ⟨e1, e2⟩ | ⟨q, q1, q2, q3, q4⟩
      · have hfm : ¬ fln m a b c x y0 t < m := by rw [hfl, fol_none e2]; omega
        refine br_t e1 (jn_f rfl ?_)
        refine hrec _ _ _ ⟨t, by rw [hU], i3, F, i4, i5, Or.inr ⟨rfl, hfm⟩⟩ ?_
        rw [if_pos rfl, if_neg (by decide), i4, nI_clamp (by omega)]
        omega
      · have hq : fln m a b c x y0 t = q := by rw [hfl]; exact fol_is W P q1 q3 q4
        have hqm : fln m a b c x y0 t < m := by rw [hq]; exact q1
        refine br_f (by rw [q2]; exact nI_ne_m1 (by omega)) (jn_t (by decide) ?_)
        rw [q2]
        have hiq := (cnd_iff.mp q3).1
        refine sm_otherEnd M2 W q1 hiq ?_
        obtain ⟨w1, w2, w3⟩ := far_ok W q1 hiq
        have ef : (if a q = x then b q else a q) = far a b x q := rfl
        rw [ef]
        refine ⟨vp_lt (by omega) (by omega), ?_⟩
        intro σ1 e1
        rw [nI_clamp (by omega)] at e1
        have i41 : σ1.1 0 11 = nI (t + 1) := by rw [e1, wr_ne _ _ _ (by decide)]; exact i4
        rw [i41]
        refine ⟨vp_lt (by omega) (by omega), ?_⟩
        intro v1 ev σ2 e2
        rw [rd_nI (by omega), e1, wr_at, upd_at, mk_set (show far a b x q < 9 by omega) (by omega)] at ev
        have F2 : frF [6] [11] σ σ2 := by rw [e2, e1]; exact frF_tr F (frF_tr (frF_c (by simp) (by decide)) (frF_f (by simp)))
        have i42 : σ2.1 0 11 = nI (t + 1 + 1) := by rw [e2, wr_at, upd_at, nI_1]
        refine hrec _ _ _ ⟨t + 1, ?_, fun j hj => ?_, F2, i42, fun j hj => ?_, Or.inl rfl⟩ ?_
        · rw [ev, fsT_s, hU, hq]
        · by_cases u : j = t
          · rw [u]; exact hqm
          · exact i3 j (by omega)
        · rw [e2, wr_ne _ _ _ (by decide), e1, wr_at]
          by_cases u : j = t + 1
          · rw [u, upd_at, fsT_s, hq]
          · rw [upd_ne _ _ u]; exact i5 j (by omega)
        · rw [if_neg (by decide), if_neg (by decide), i42, i4, nI_clamp (by omega), nI_clamp (by omega)]
          omega
  · refine br_t rfl ?_
    exact h τ (t + 1) F ⟨by omega, fun j hj => i3 j (by omega), by rw [Nat.add_sub_cancel]; exact hno⟩ (by omega) i4 i5
end
