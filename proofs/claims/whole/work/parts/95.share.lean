/-! shares of few lines, counted -/
theorem lpG2 {α0 α1 : Type} {F : (α0 → α1 → Prop) → α0 → α1 → Prop} (I : Nat → α0 → α1 → Prop) (hs : ∀ (rec : α0 → α1 → Prop) (N : Nat) (x0 : α0) (x1 : α1), I N x0 x1 → (∀ (N' : Nat) (x0' : α0) (x1' : α1), N' < N → I N' x0' x1' → rec x0' x1') → F rec x0 x1) {N : Nat} {x0 : α0} {x1 : α1} (h : I N x0 x1) : kk_lp2 F x0 x1 := by
  have key : ∀ n, ∀ N x0 x1, N < n → I N x0 x1 → kk_it2 F n x0 x1 := by
    intro n
    induction n with
    | zero => intro N _ _ h0; exact absurd h0 (Nat.not_lt_zero _)
    | succ n ih => exact fun N x0 x1 h1 h2 => hs (kk_it2 F n) N x0 x1 h2 (fun N' x0' x1' h3 h4 => ih N' x0' x1' (by omega) h4)
  exact ⟨N + 1, key _ N x0 x1 (Nat.lt_succ_self _) h⟩
def pa (p : Nat → Nat) (k : Nat) : Nat := mx (fun o => p o + 1) k
section
variable (m : Nat) (a b : Nat → Nat) (e : Nat → Nat) (y : Nat)
def fits (p : Nat → Nat) (k g : Nat) : Bool := !anyb (fun j => decide (p j = g) && mts a b k j) k
def Wg : Nat → (Nat → Nat) → Nat
  | 0, p => e (pa p m)
  | q + 1, p => sumN (fun g => y + (if fits a b p (m - 1 - q) g then Wg q (ext1 p (m - 1 - q) g) else 0)) (pa p (m - 1 - q) + 1) + y
def tl (k : Nat) (p : Nat → Nat) (w : Nat) : Nat := sumN (fun g => if w ≤ g then y + (if fits a b p k g then Wg m a b e y (m - 1 - k) (ext1 p k g) else 0) else 0) (pa p k + 1) + y
end
section
variable {n m : Nat} {a b : Nat → Nat} {e : Nat → Nat} {y : Nat}
theorem pa_s (p : Nat → Nat) (k : Nat) : pa p (k + 1) = if p k + 1 > pa p k then p k + 1 else pa p k := rfl
theorem pa_cong {p p' : Nat → Nat} {k : Nat} (h : ∀ j, j < k → p j = p' j) : pa p k = pa p' k := mx_cong (fun j hj => by rw [h j hj])
theorem pa_x {p : Nat → Nat} {k g : Nat} : pa (ext1 p k g) (k + 1) = if g + 1 > pa p k then g + 1 else pa p k := by
  rw [pa_s, x1_at, pa_cong (p := ext1 p k g) (p' := p) (fun j hj => x1_ne _ _ (by omega))]
theorem fits_cong {p p' : Nat → Nat} {k g : Nat} (h : ∀ j, j < k → p j = p' j) : fits a b p k g = fits a b p' k g := by
  unfold fits
  rw [anyb_cong (P := fun j => decide (p j = g) && mts a b k j) (P' := fun j => decide (p' j = g) && mts a b k j) (fun j hj => by rw [h j hj])]
theorem Wg_cong : ∀ q {p p' : Nat → Nat}, q ≤ m → (∀ j, j < m - q → p j = p' j) → Wg m a b e y q p = Wg m a b e y q p'
  | 0, p, p', _, h => by
    show e (pa p m) = e (pa p' m)
    rw [pa_cong (k := m) (fun j hj => h j (by omega))]
  | q + 1, p, p', hq, h => by
    have h1 : ∀ j, j < m - 1 - q → p j = p' j := fun j hj => h j (by omega)
    show sumN _ (pa p (m - 1 - q) + 1) + y = sumN _ (pa p' (m - 1 - q) + 1) + y
    rw [pa_cong h1]
    congr 1
    refine sumN_cong (fun g _ => ?_)
    rw [fits_cong h1, Wg_cong q (p := ext1 p (m - 1 - q) g) (p' := ext1 p' (m - 1 - q) g) (by omega) (fun j hj => by
      unfold ext1
      by_cases e : j = m - 1 - q
      · rw [if_pos e, if_pos e]
      · rw [if_neg e, if_neg e]; exact h j (by omega))]
theorem tl_cong {k : Nat} {p p' : Nat → Nat} {w : Nat} (hk : k < m) (h : ∀ j, j < k → p j = p' j) : tl m a b e y k p w = tl m a b e y k p' w := by
  unfold tl
  rw [pa_cong h]
  congr 1
  refine sumN_cong (fun g _ => ?_)
  rw [fits_cong h, Wg_cong (m - 1 - k) (p := ext1 p k g) (p' := ext1 p' k g) (by omega) (fun j hj => by
    unfold ext1
    by_cases e : j = k
    · rw [if_pos e, if_pos e]
    · rw [if_neg e, if_neg e]; exact h j (by omega))]
theorem tl_0 {k : Nat} {p : Nat → Nat} (hk : k < m) : tl m a b e y k p 0 = Wg m a b e y (m - k) p := by
  obtain ⟨q, hq⟩ : ∃ q, m - k = q + 1 := ⟨m - k - 1, by omega⟩
  have e1 : m - 1 - q = k := by omega
  have e2 : m - 1 - k = q := by omega
  rw [hq]
  show _ = sumN (fun g => y + (if fits a b p (m - 1 - q) g then Wg m a b e y q (ext1 p (m - 1 - q) g) else 0)) (pa p (m - 1 - q) + 1) + y
  unfold tl
  rw [e1, e2]
  congr 1
theorem tl_out {k : Nat} {p : Nat → Nat} {w : Nat} (hw : pa p k < w) : tl m a b e y k p w = y := by
  unfold tl
  have z0 : ∀ N, sumN (fun _ => 0) N = 0 := fun N => by
    induction N with
    | zero => rfl
    | succ N ih => rw [sumN, ih]
  rw [sumN_cong (g := fun _ => 0) (fun g hg => if_neg (by omega)), z0, Nat.zero_add]
theorem tl_st {k : Nat} {p : Nat → Nat} {w : Nat} (hw : w ≤ pa p k) : tl m a b e y k p w = tl m a b e y k p (w + 1) + (y + (if fits a b p k w then Wg m a b e y (m - 1 - k) (ext1 p k w) else 0)) := by
  unfold tl
  have i := sumN_one (f := fun g => if w ≤ g then y + (if fits a b p k g then Wg m a b e y (m - 1 - k) (ext1 p k g) else 0) else 0) (g := fun g => if w + 1 ≤ g then y + (if fits a b p k g then Wg m a b e y (m - 1 - k) (ext1 p k g) else 0) else 0) (o := w) (n := pa p k + 1) (by omega) (fun q _ hq => by
    by_cases e : w ≤ q
    · rw [if_pos e, if_pos (show w + 1 ≤ q by omega)]
    · rw [if_neg e, if_neg (show ¬ w + 1 ≤ q by omega)])
  rw [if_pos (Nat.le_refl _), if_neg (Nat.not_succ_le_self w)] at i
  omega
theorem Wg_le (he : ∀ u, e u ≤ 1) : ∀ q p, q ≤ m → m ≤ 9 → (∀ k, k ≤ m - q → pa p k ≤ k) → Wg m a b e 0 q p ≤ 10 ^ q
  | 0, p, _, _, _ => he _
  | q + 1, p, hq, h9, hp => by
    show sumN (fun g => 0 + (if fits a b p (m - 1 - q) g then Wg m a b e 0 q (ext1 p (m - 1 - q) g) else 0)) (pa p (m - 1 - q) + 1) + 0 ≤ _
    have h1 := hp (m - 1 - q) (by omega)
    have bd : ∀ g, g < pa p (m - 1 - q) + 1 → 0 + (if fits a b p (m - 1 - q) g then Wg m a b e 0 q (ext1 p (m - 1 - q) g) else 0) ≤ 10 ^ q := fun g hg => by
      have := Wg_le he q (ext1 p (m - 1 - q) g) (by omega) h9 (fun k hk => by
        by_cases ek : k = m - 1 - q + 1
        · rw [ek, pa_x]
          split <;> omega
        · rw [pa_cong (p := ext1 p (m - 1 - q) g) (p' := p) (fun j hj => x1_ne _ _ (by omega))]
          exact hp k (by omega))
      split <;> omega
    have h2 : sumN (fun g => 0 + (if fits a b p (m - 1 - q) g then Wg m a b e 0 q (ext1 p (m - 1 - q) g) else 0)) (pa p (m - 1 - q) + 1) ≤ sumN (fun _ => 10 ^ q) (pa p (m - 1 - q) + 1) := sumN_mono bd
    have h3 := sumN_le (f := fun _ => 10 ^ q) (x := 10 ^ q) (fun _ => Nat.le_refl _) (pa p (m - 1 - q) + 1)
    have h4 := Nat.mul_le_mul_left (10 ^ q) (show pa p (m - 1 - q) + 1 ≤ 10 by omega)
    rw [Nat.pow_succ]
    omega
end
