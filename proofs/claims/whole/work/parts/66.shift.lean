/-! colours shifted along a fan -/
/-- after i steps: line i is bare, the lines before have the colours of the ones after them -/
def shC (L : Nat → Nat) (c : Nat → Int32) : Nat → Nat → Int32
  | 0 => c
  | i + 1 => upd (upd (shC L c i) (L (i + 1)) (-1)) (L i) (shC L c i (L (i + 1)))
section
variable {n m : Nat} {a b : Nat → Nat} {c : Nat → Int32} {x s : Nat} {L Y : Nat → Nat}
/-- a fan's lines: at x, the far end of line i is Y i, posts unlike -/
def FanL (m : Nat) (a b : Nat → Nat) (x s : Nat) (L Y : Nat → Nat) : Prop := (∀ i, i < s → L i < m ∧ inc a b (L i) x = true ∧ far a b x (L i) = Y i) ∧ ∀ i j, i < s → j < s → Y i = Y j → i = j
theorem fan_at (W : Wf n m a b) (H : FanL m a b x s L Y) {i j : Nat} (hi : i < s) (hj : j < s) (h : inc a b (L j) (Y i) = true) : j = i := by
  obtain ⟨h1, h2, h3⟩ := H.1 i hi
  obtain ⟨g1, g2, g3⟩ := H.1 j hj
  have f1 := (far_ok W h1 h2).2.1
  have hw := W.2.2.2.1 _ g1
  refine H.2 j i hj hi ?_
  rw [← g3]
  rw [h3] at f1
  unfold far
  rcases inc_iff.mp g2 with z | z
  · rw [if_pos z]
    rcases inc_iff.mp h with y | y
    · exact absurd (y.symm.trans z) f1
    · exact y
  · rw [if_neg (by omega)]
    rcases inc_iff.mp h with y | y
    · exact y
    · exact absurd (y.symm.trans z) f1
theorem fan_ne (H : FanL m a b x s L Y) {i j : Nat} (hi : i < s) (hj : j < s) (h : L i = L j) : i = j := H.2 i j hi hj (by rw [← (H.1 i hi).2.2, ← (H.1 j hj).2.2, h])
theorem sh_ok (W : Wf n m a b) (P : Pr n m a b c) (H : FanL m a b x s L Y) {w : Nat} (hw : w < s) (h0 : c (L 0) = -1) (hp : ∀ i, i < w → c (L (i + 1)) ≠ -1 ∧ usd m a b c (Y i) (c (L (i + 1))) = false) :
    ∀ i, i ≤ w → Pr n m a b (shC L c i) ∧ shC L c i (L i) = -1 ∧ (∀ k, (∀ j, j ≤ i → k ≠ L j) → shC L c i k = c k) ∧ (∀ v, v ≠ -1 → usd m a b (shC L c i) x v = true → usd m a b c x v = true) ∧ (∀ t, t < s → i ≤ t → ∀ v, v ≠ -1 → usd m a b c (Y t) v = false → usd m a b (shC L c i) (Y t) v = false)
  | 0, _ => ⟨P, h0, fun _ _ => rfl, fun _ _ h => h, fun _ _ _ _ _ h => h⟩
  | i + 1, hi => by
    obtain ⟨p1, p2, p3, p4, p5⟩ := sh_ok W P H hw h0 hp i (by omega)
    have hpi := hp i (by omega)
    obtain ⟨l1, l2, l3⟩ := H.1 i (by omega)
    obtain ⟨m1, m2, m3⟩ := H.1 (i + 1) (by omega)
    have hne : L i ≠ L (i + 1) := fun z => by have := fan_ne H (by omega) (by omega) z; omega
    have eα : shC L c i (L (i + 1)) = c (L (i + 1)) := p3 _ (fun j hj z => by have := fan_ne H (by omega) (by omega) z; omega)
    have P1 : Pr n m a b (upd (shC L c i) (L (i + 1)) (-1)) := Pr_upd p1 (Or.inl rfl) (fun _ _ _ _ => rfl)
    have fx : usd m a b (upd (shC L c i) (L (i + 1)) (-1)) x (c (L (i + 1))) = false := by
      refine anyb_no.mpr (fun k hk => ?_)
      cases hik : inc a b k x with
      | false => rfl
      | true =>
        rw [Bool.true_and]
        refine decide_eq_false (fun z => ?_)
        rw [upd_if] at z
        by_cases e : k = L (i + 1)
        · rw [if_pos e] at z; exact hpi.1 z.symm
        · rw [if_neg e] at z
          have := one_line p1 hk m1 hik m2 (z.trans eα.symm) (by rw [z]; exact hpi.1)
          exact e this
    have fy : usd m a b (upd (shC L c i) (L (i + 1)) (-1)) (Y i) (c (L (i + 1))) = false := by
      have h5 := p5 i (by omega) (Nat.le_refl _) _ hpi.1 hpi.2
      refine anyb_no.mpr (fun k hk => ?_)
      have h6 := anyb_no.mp h5 k hk
      cases hik : inc a b k (Y i) with
      | false => rfl
      | true =>
        rw [hik, Bool.true_and] at h6
        rw [Bool.true_and]
        refine decide_eq_false (fun z => ?_)
        rw [upd_if] at z
        by_cases e : k = L (i + 1)
        · rw [if_pos e] at z; exact hpi.1 z.symm
        · rw [if_neg e] at z
          exact (of_decide_eq_false h6) z
    have ends : ∀ p, inc a b (L i) p = true → p = x ∨ p = Y i := by
      intro p hpp
      rw [← l3]
      unfold far
      have hwl := W.2.2.2.1 _ l1
      rcases inc_iff.mp l2 with z | z <;> rcases inc_iff.mp hpp with y | y
      · left; omega
      · right; rw [if_pos z]; exact y.symm
      · right; rw [if_neg (by omega)]; exact y.symm
      · left; omega
    have hq : ∃ q, q ≤ Dg n m a b ∧ c (L (i + 1)) = nI q := by
      rcases P.1 _ m1 with u | u
      · exact absurd u hpi.1
      · exact u
    have P2 : Pr n m a b (shC L c (i + 1)) := by
      show Pr n m a b (upd (upd (shC L c i) (L (i + 1)) (-1)) (L i) (shC L c i (L (i + 1))))
      rw [eα]
      refine Pr_upd P1 (Or.inr hq) (fun j hj hmt he => ?_)
      exfalso
      obtain ⟨_, p, g1, g2⟩ := mts_iff.mp hmt
      rcases ends p g1 with z | z
      · have := anyb_no.mp fx j hj
        rw [← z, g2, decide_eq_true he] at this; cases this
      · have := anyb_no.mp fy j hj
        rw [← z, g2, decide_eq_true he] at this; cases this
    have val : ∀ k, shC L c (i + 1) k = if k = L i then c (L (i + 1)) else if k = L (i + 1) then -1 else shC L c i k := by
      intro k
      show upd (upd (shC L c i) (L (i + 1)) (-1)) (L i) (shC L c i (L (i + 1))) k = _
      rw [eα, upd_if, upd_if]
    refine ⟨P2, ?_, fun k hk => ?_, fun v hv hu => ?_, fun t ht hit v hv hu => ?_⟩
    · rw [val, if_neg (Ne.symm hne), if_pos rfl]
    · rw [val, if_neg (hk i (by omega)), if_neg (hk (i + 1) (Nat.le_refl _))]
      exact p3 k (fun j hj => hk j (by omega))
    · obtain ⟨k, hk, h2⟩ := anyb_iff.mp hu
      rw [Bool.and_eq_true, decide_eq_true_eq, val] at h2
      by_cases e1 : k = L i
      · rw [if_pos e1] at h2
        exact anyb_iff.mpr ⟨L (i + 1), m1, by rw [m2, decide_eq_true h2.2]; rfl⟩
      · rw [if_neg e1] at h2
        by_cases e2 : k = L (i + 1)
        · rw [if_pos e2] at h2; exact absurd h2.2.symm hv
        · rw [if_neg e2] at h2
          exact p4 v hv (anyb_iff.mpr ⟨k, hk, by rw [h2.1, decide_eq_true h2.2]; rfl⟩)
    · have h5 := p5 t ht (by omega) v hv hu
      refine anyb_no.mpr (fun k hk => ?_)
      have h6 := anyb_no.mp h5 k hk
      cases hik : inc a b k (Y t) with
      | false => rfl
      | true =>
        rw [hik, Bool.true_and] at h6
        rw [Bool.true_and]
        refine decide_eq_false (fun z => ?_)
        rw [val] at z
        by_cases e1 : k = L i
        · rw [e1] at hik
          have := fan_at W H ht (by omega) hik
          omega
        · rw [if_neg e1] at z
          by_cases e2 : k = L (i + 1)
          · rw [if_pos e2] at z; exact hv z.symm
          · rw [if_neg e2] at z
            exact (of_decide_eq_false h6) z
end
