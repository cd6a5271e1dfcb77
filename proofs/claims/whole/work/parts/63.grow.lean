/-! what a fan tells of the colours at its middle -/
section
variable {n m : Nat} {a b : Nat → Nat} {c : Nat → Int32} {x y0 : Nat}
theorem fol_ex (W : Wf n m a b) (P : Pr n m a b c) {y : Nat} {U : Nat → Bool} : ∀ (v k : Nat), k < m → cnd m a b c x y U k = true → cv (c k) ≤ v → fol m a b c x y U < m := by
  intro v
  induction v with
  | zero =>
    intro k hk hc hv
    rw [fol_is W P hk hc (fun j hj hcj => by omega)]; exact hk
  | succ v ih =>
    intro k hk hc hv
    by_cases h : ∃ j, j < m ∧ cnd m a b c x y U j = true ∧ cv (c j) < cv (c k)
    · obtain ⟨j, hj, hcj, hlt⟩ := h
      exact ih j hj hcj (by omega)
    · rw [fol_is W P hk hc (fun j hj hcj => Nat.not_lt.mp (fun z => h ⟨j, hj, hcj, z⟩))]; exact hk
/-- two lines with the same ends at x are one -/
theorem far_inj (W : Wf n m a b) {i j : Nat} (hi : i < m) (hj : j < m) (h1 : inc a b i x = true) (h2 : inc a b j x = true) (h : far a b x i = far a b x j) : i = j := by
  have w1 := W.2.2.2.1 i hi
  have w2 := W.2.2.2.1 j hj
  have f1 := (far_ok W hi h1).2.1
  have f2 := (far_ok W hj h2).2.1
  unfold far at h f1 f2
  have g1 := inc_iff.mp h1
  have g2 := inc_iff.mp h2
  by_cases e1 : a i = x <;> by_cases e2 : a j = x
  · rw [if_pos e1, if_pos e2] at h
    exact W.2.2.2.2 i j hi hj (by omega) h
  · rw [if_pos e1, if_neg e2] at h
    omega
  · rw [if_neg e1, if_pos e2] at h
    omega
  · rw [if_neg e1, if_neg e2] at h
    exact W.2.2.2.2 i j hi hj h (by omega)
theorem fU_iff {p : Nat} : ∀ i, (fsT m a b c x y0 i).2 p = true ↔ ∃ j, j ≤ i ∧ (fsT m a b c x y0 j).1 = p
  | 0 => by
    show decide (p = y0) = true ↔ _
    rw [decide_eq_true_eq]
    constructor
    · intro h; exact ⟨0, Nat.le_refl _, h.symm⟩
    · rintro ⟨j, hj, h⟩
      rw [show j = 0 by omega] at h
      exact h.symm
  | i + 1 => by
    show ((fsT m a b c x y0 i).2 p || decide (p = far a b x (fln m a b c x y0 i))) = true ↔ _
    rw [Bool.or_eq_true, fU_iff i, decide_eq_true_eq]
    constructor
    · rintro (⟨j, hj, h⟩ | h)
      · exact ⟨j, by omega, h⟩
      · exact ⟨i + 1, Nat.le_refl _, h.symm⟩
    · rintro ⟨j, hj, h⟩
      by_cases e : j = i + 1
      · right
        rw [e] at h
        exact h.symm
      · exact Or.inl ⟨j, by omega, h⟩
/-- the line to the next post of a fan -/
theorem fln_ok {i : Nat} (h : fln m a b c x y0 i < m) : inc a b (fln m a b c x y0 i) x = true ∧ c (fln m a b c x y0 i) ≠ -1 ∧ (fsT m a b c x y0 i).2 (far a b x (fln m a b c x y0 i)) = false ∧ usd m a b c (fsT m a b c x y0 i).1 (c (fln m a b c x y0 i)) = false := cnd_iff.mp (fol_lt h)
/-- a colour that the last post lacks and the middle has is the colour of one of the fan's lines -/
theorem fan_has (W : Wf n m a b) (P : Pr n m a b c) {k0 s d : Nat} (hk0 : k0 < m) (hi0 : inc a b k0 x = true) (hc0 : c k0 = -1) (hd : d < 9) (hs : Fsz m a b c x (far a b x k0) s) (h1 : usd m a b c (fsT m a b c x (far a b x k0) (s - 1)).1 (nI d) = false) (h2 : usd m a b c x (nI d) = true) : ∃ j, j + 1 < s ∧ c (fln m a b c x (far a b x k0) j) = nI d := by
  obtain ⟨k, hk, hk2⟩ := anyb_iff.mp h2
  rw [Bool.and_eq_true, decide_eq_true_eq] at hk2
  have hU : (fsT m a b c x (far a b x k0) (s - 1)).2 (far a b x k) = true := by
    cases hu : (fsT m a b c x (far a b x k0) (s - 1)).2 (far a b x k) with
    | true => rfl
    | false =>
      exfalso
      exact hs.2.2 (fol_ex W P _ k hk (cnd_iff.mpr ⟨hk2.1, by rw [hk2.2]; exact nI_ne_m1 (by omega), hu, by rw [hk2.2]; exact h1⟩) (Nat.le_refl _))
  obtain ⟨j, hj, e⟩ := (fU_iff (s - 1)).mp hU
  have hs1 := hs.1
  cases j with
  | zero =>
    have e : far a b x k0 = far a b x k := e
    have := far_inj W hk0 hk hi0 hk2.1 e
    rw [← this, hc0] at hk2
    exact absurd hk2.2.symm (nI_ne_m1 (by omega))
  | succ i =>
    have hi := hs.2.1 i (by omega)
    have e : far a b x (fln m a b c x (far a b x k0) i) = far a b x k := e
    have := far_inj W hi hk (fln_ok hi).1 hk2.1 e
    exact ⟨i, by omega, by rw [this]; exact hk2.2⟩
/-- posts of a fan are unlike -/
theorem fan_inj {s i j : Nat} (hs : Fsz m a b c x y0 s) (hi : i < s) (hj : j < s) (h : (fsT m a b c x y0 i).1 = (fsT m a b c x y0 j).1) : i = j := by
  have key : ∀ i j, i < j → j < s → (fsT m a b c x y0 i).1 ≠ (fsT m a b c x y0 j).1 := by
    intro i j hij hjs he
    obtain ⟨t, rfl⟩ : ∃ t, j = t + 1 := ⟨j - 1, by omega⟩
    have hl := fln_ok (hs.2.1 t (by omega))
    have he : (fsT m a b c x y0 i).1 = far a b x (fln m a b c x y0 t) := he
    have : (fsT m a b c x y0 t).2 (far a b x (fln m a b c x y0 t)) = true := (fU_iff t).mpr ⟨i, by omega, he⟩
    rw [hl.2.2.1] at this; cases this
  rcases Nat.lt_trichotomy i j with z | z | z
  · exact absurd h (key i j z hj)
  · exact z
  · exact absurd h.symm (key j i z hi)
end
