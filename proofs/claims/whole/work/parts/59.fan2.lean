/-! the row of a fan -/
def fsT (m : Nat) (a b : Nat → Nat) (c : Nat → Int32) (x y0 : Nat) : Nat → Nat × (Nat → Bool)
  | 0 => (y0, fun p => decide (p = y0))
  | i + 1 => (far a b x (fol m a b c x (fsT m a b c x y0 i).1 (fsT m a b c x y0 i).2), fun p => (fsT m a b c x y0 i).2 p || decide (p = far a b x (fol m a b c x (fsT m a b c x y0 i).1 (fsT m a b c x y0 i).2)))
def fln (m : Nat) (a b : Nat → Nat) (c : Nat → Int32) (x y0 i : Nat) : Nat := fol m a b c x (fsT m a b c x y0 i).1 (fsT m a b c x y0 i).2
theorem fsT_s {m : Nat} {a b : Nat → Nat} {c : Nat → Int32} {x y0 i : Nat} : fsT m a b c x y0 (i + 1) = (far a b x (fln m a b c x y0 i), fun p => (fsT m a b c x y0 i).2 p || decide (p = far a b x (fln m a b c x y0 i))) := rfl
section
variable {n m : Nat} {a b : Nat → Nat} {c : Nat → Int32} {σ : kk_St} {x y0 : Nat}
/-- posts of a fan: all unlike, none the middle -/
theorem fan_inv (W : Wf n m a b) (hx : x < n) (hy : y0 < n) (hxy : y0 ≠ x) : ∀ i, (∀ j, j < i → fln m a b c x y0 j < m) → fb_ct (fsT m a b c x y0 i).2 9 = i + 1 ∧ (fsT m a b c x y0 i).2 x = false ∧ (fsT m a b c x y0 i).1 < n ∧ (fsT m a b c x y0 i).1 ≠ x ∧ (fsT m a b c x y0 i).2 (fsT m a b c x y0 i).1 = true ∧ (i ≤ 7)
  | 0, _ => by
    have hn := W.2.1
    refine ⟨?_, ?_, hy, hxy, ?_, by omega⟩
    · show fb_ct (fun p => decide (p = y0)) 9 = 1
      have fe : (fun p => decide (p = y0)) = (fun p => decide (y0 = p)) := by
        funext p
        by_cases h : p = y0
        · simp [h]
        · simp [h, Ne.symm h]
      rw [fe]
      exact ct_one (by omega)
    · show decide (x = y0) = false
      exact decide_eq_false (Ne.symm hxy)
    · show decide (y0 = y0) = true
      simp
  | i + 1, h => by
    have hn := W.2.1
    obtain ⟨h1, h2, h3, h4, h5, h6⟩ := fan_inv W hx hy hxy i (fun j hj => h j (by omega))
    have hk := h i (by omega)
    have hc := cnd_iff.mp (fol_lt hk)
    obtain ⟨f1, f2, f3⟩ := far_ok W hk hc.1
    rw [fsT_s]
    have ect : fb_ct (fun p => (fsT m a b c x y0 i).2 p || decide (p = far a b x (fln m a b c x y0 i))) 9 = i + 1 + 1 := by
      have e := fb_ct_upd (fsT m a b c x y0 i).2 true (i := far a b x (fln m a b c x y0 i)) (n := 9) (by omega)
      have hU : (fsT m a b c x y0 i).2 (far a b x (fln m a b c x y0 i)) = false := hc.2.2.1
      rw [hU, h1] at e
      simp only [Bool.false_eq_true, if_false, if_true] at e
      have fe : (fun p => (fsT m a b c x y0 i).2 p || decide (p = far a b x (fln m a b c x y0 i))) = (fun k => if k = far a b x (fln m a b c x y0 i) then true else (fsT m a b c x y0 i).2 k) := by
        funext p
        by_cases u : p = far a b x (fln m a b c x y0 i)
        · simp [u]
        · simp [u]
      rw [fe]
      exact e
    have e2 : ((fsT m a b c x y0 i).2 x || decide (x = far a b x (fln m a b c x y0 i))) = false := by
      rw [h2, decide_eq_false (Ne.symm f2)]; rfl
    refine ⟨ect, e2, f1, f2, by simp, ?_⟩
    -- at most eight posts besides the middle
    have e3 := fb_ct_upd (fun p => (fsT m a b c x y0 i).2 p || decide (p = far a b x (fln m a b c x y0 i))) true (i := x) (n := 9) (by omega)
    rw [e2, ect] at e3
    simp only [Bool.false_eq_true, if_false, if_true] at e3
    have e4 := fb_ct_le (fun k => if k = x then true else (fsT m a b c x y0 i).2 k || decide (k = far a b x (fln m a b c x y0 i))) 9
    omega
/-- how many posts the fan has -/
def Fsz (m : Nat) (a b : Nat → Nat) (c : Nat → Int32) (x y0 s : Nat) : Prop := 1 ≤ s ∧ (∀ j, j + 1 < s → fln m a b c x y0 j < m) ∧ ¬ fln m a b c x y0 (s - 1) < m
theorem Fsz_one {s t : Nat} (h1 : Fsz m a b c x y0 s) (h2 : Fsz m a b c x y0 t) : s = t := by
  rcases Nat.lt_trichotomy s t with h | h | h
  · exact absurd (h2.2.1 (s - 1) (by have := h1.1; omega)) h1.2.2
  · exact h
  · exact absurd (h1.2.1 (t - 1) (by have := h2.1; omega)) h2.2.2
theorem sc_lay (N : RN n m a b σ) (K : RK m c σ) (W : Wf n m a b) (P : Pr n m a b c) {k0 : Nat} (hk0 : k0 < m) (hi0 : inc a b k0 x = true) {Q : kk_St → Prop} (h : ∀ τ s, frL [3, 18] σ τ → Fsz m a b c x (far a b x k0) s → s ≤ 8 → τ.1 3 3 = nI s → (∀ j, j < s → τ.1 18 j = nI (fsT m a b c x (far a b x k0) j).1) → Q τ) : f_X4_lay (nI k0) (nI x) σ Q := by
  have hm := W.2.2.1
  have hn := W.2.1
  have hwk := W.2.2.2.1 k0 hk0
  have hx : x < n := by rcases inc_iff.mp hi0 with z | z <;> omega
  obtain ⟨f1, f2, f3⟩ := far_ok W hk0 hi0
  unfold f_X4_lay
  refine sc_farEnd N W hk0 (by omega) ?_
  have e0 : (if a k0 = x then b k0 else a k0) = far a b x k0 := rfl
  rw [e0]
  generalize far a b x k0 = y0 at *
  refine ⟨vp_lt (k := 0) (by omega) (by omega), ?_⟩
  intro σa ea σb eb
  have Fb : frL [3, 18] σ σb := by rw [eb, ea]; exact frL_tr (frL_wr (by simp)) (frL_wr (by simp))
  have cl0 : Int32.toNatClampNeg (0 : Int32) = 0 := rfl
  rw [cl0] at ea
  have r0 : σb.1 18 0 = nI y0 := by rw [eb, wr_ne _ _ _ (by decide), ea, wr_at, upd_at]
  have s0 : σb.1 3 3 = nI 1 := by rw [eb, wr_at, upd_at]; rfl
  refine ⟨vp_lt (k := 0) (by omega) (by omega), ?_⟩
  intro u eu
  have eu : u = mk (fsT m a b c x y0 0).2 9 := by
    rw [eu, show (0 : Int32) = nI 0 from rfl, rd_nI (by omega), r0, mk_one (show y0 < 9 by omega) (by omega)]; rfl
  refine lf_3_1 9 (by omega) (fun i v τ => 1 ≤ i ∧ v = mk (fsT m a b c x y0 (i - 1)).2 9 ∧ (∀ j, j + 1 < i → fln m a b c x y0 j < m) ∧ frL [3, 18] σ τ ∧ τ.1 3 3 = nI i ∧ ∀ j, j < i → τ.1 18 j = nI (fsT m a b c x y0 j).1) (k0 := 1) (by omega) ⟨Nat.le_refl _, eu, fun j hj => by omega, Fb, s0, fun j hj => by rw [show j = 0 by omega]; exact r0⟩ ?_ ?_
  · rintro rec i v τ hi ⟨i1, rfl, i3, F, i4, i5⟩ hrec
    obtain ⟨t, rfl⟩ : ∃ t, i = t + 1 := ⟨i - 1, by omega⟩
    rw [Nat.add_sub_cancel] at *
    obtain ⟨g1, g2, g3, g4, g5, g6⟩ := fan_inv (c := c) W hx f1 f2 t (fun j hj => i3 j (by omega))
    refine br_f (nI_ge (b := 9) hi (by omega)) ?_
    have es : nI (t + 1) - 1 = nI t := by rw [show (1 : Int32) = nI 1 from rfl, z_sub (by omega), Nat.add_sub_cancel]
    rw [es]
    refine ⟨vp_lt (by omega) (by omega), ?_⟩
    rw [rd_nI (by omega), i5 t (by omega)]
    refine sc_follower (RN_fr N F (by simp)) (RK_fr K F (by simp)) W P (by omega) (by omega) ?_
    by_cases hf : fln m a b c x y0 t < m
    · have hc := cnd_iff.mp (fol_lt hf)
      obtain ⟨w1, w2, w3⟩ := far_ok W hf hc.1
      have w1 : far a b x (fln m a b c x y0 t) < n := w1
      rw [show (if fol m a b c x (fsT m a b c x y0 t).1 (fsT m a b c x y0 t).2 < m then nI (far a b x (fol m a b c x (fsT m a b c x y0 t).1 (fsT m a b c x y0 t).2)) else -1) = nI (far a b x (fln m a b c x y0 t)) from if_pos hf]
      refine jn_t (nI_ne_m1 (by omega)) ⟨vp_lt (by omega) (by omega), ?_⟩
      intro σ1 e1 v1 ev σ2 e2
      rw [nI_clamp (by omega)] at e1
      have F2 : frL [3, 18] σ σ2 := by rw [e2, e1]; exact frL_tr F (frL_tr (frL_wr (by simp)) (frL_wr (by simp)))
      refine hrec _ _ ⟨by omega, ?_, fun j hj => ?_, F2, ?_, fun j hj => ?_⟩
      · rw [ev, mk_set (show far a b x (fln m a b c x y0 t) < 9 by omega) (by omega)]
        rfl
      · by_cases u : j = t
        · rw [u]; exact hf
        · exact i3 j (by omega)
      · rw [e2, wr_at, upd_at, nI_1]
      · rw [e2, wr_ne _ _ _ (by decide), e1, wr_at]
        by_cases u : j = t + 1
        · rw [u, upd_at]; rfl
        · rw [upd_ne _ _ u]; exact i5 j (by omega)
    · rw [show (if fol m a b c x (fsT m a b c x y0 t).1 (fsT m a b c x y0 t).2 < m then nI (far a b x (fol m a b c x (fsT m a b c x y0 t).1 (fsT m a b c x y0 t).2)) else -1) = (-1 : Int32) from if_neg hf]
      refine jn_f rfl ?_
      exact h τ (t + 1) F ⟨by omega, i3, by rw [Nat.add_sub_cancel]; exact hf⟩ (by omega) i4 i5
  · rintro rec v τ ⟨i1, rfl, i3, F, i4, i5⟩
    have := (fan_inv (c := c) W hx f1 f2 8 (fun j hj => i3 j (by omega))).2.2.2.2.2
    omega
end
