/-! colourings as numbers, and turns of chains -/
def en (B : Nat) (x : Nat → Nat) : Nat → Nat
  | 0 => 0
  | m + 1 => en B x m + x m * B ^ m
def dgt (B c l : Nat) : Nat := c / B ^ l % B
theorem en_lt {B : Nat} {x : Nat → Nat} : ∀ {m : Nat}, (∀ l, l < m → x l < B) → en B x m < B ^ m
  | 0, _ => Nat.one_pos
  | m + 1, h => by
    have ih := en_lt (B := B) (x := x) (m := m) (fun l hl => h l (by omega))
    have := Nat.mul_le_mul_right (B ^ m) (show x m + 1 ≤ B from h m (by omega))
    rw [Nat.add_mul, Nat.one_mul] at this
    show en B x m + x m * B ^ m < B ^ (m + 1)
    rw [Nat.pow_succ, Nat.mul_comm (B ^ m) B]
    omega
theorem en_cong {B : Nat} {x y : Nat → Nat} : ∀ {m : Nat}, (∀ l, l < m → x l = y l) → en B x m = en B y m
  | 0, _ => rfl
  | m + 1, h => by
    show en B x m + _ = en B y m + _
    rw [en_cong (fun l hl => h l (by omega)), h m (by omega)]
theorem en_dgt {B : Nat} {x : Nat → Nat} (hB : 0 < B) : ∀ {m : Nat}, (∀ l, l < m → x l < B) → ∀ l, l < m → dgt B (en B x m) l = x l
  | 0, _, l, hl => absurd hl (Nat.not_lt_zero _)
  | m + 1, h, l, hl => by
    have lt := en_lt (B := B) (x := x) (m := m) (fun l hl => h l (by omega))
    show (en B x m + x m * B ^ m) / B ^ l % B = x l
    by_cases e : l = m
    · subst e
      rw [Nat.add_mul_div_right _ _ (Nat.pow_pos hB), Nat.div_eq_of_lt lt, Nat.zero_add, Nat.mod_eq_of_lt (h l (by omega))]
    · obtain ⟨d, hd⟩ : ∃ d, m = l + 1 + d := ⟨m - l - 1, by omega⟩
      have e1 : x m * B ^ m = x m * B ^ d * B * B ^ l := by
        rw [hd, Nat.pow_add, Nat.pow_add, Nat.pow_one]
        simp only [Nat.mul_assoc, Nat.mul_comm, Nat.mul_left_comm]
      rw [e1, Nat.add_mul_div_right _ _ (Nat.pow_pos hB), Nat.add_mul_mod_self_right]
      exact en_dgt hB (fun l hl => h l (by omega)) l (by omega)
theorem dgt_en {B c : Nat} : ∀ m, en B (dgt B c) m = c % B ^ m
  | 0 => by rw [Nat.pow_zero, Nat.mod_one]; rfl
  | m + 1 => by
    show en B (dgt B c) m + c / B ^ m % B * B ^ m = _
    rw [dgt_en m, Nat.mod_pow_succ, Nat.mul_comm]
theorem dgt_en' {B c m : Nat} (h : c < B ^ m) : en B (dgt B c) m = c := by rw [dgt_en m, Nat.mod_eq_of_lt h]
theorem dgt_lt {B c l : Nat} (hB : 0 < B) : dgt B c l < B := Nat.mod_lt _ hB
def fl (x : Nat → Nat) (C : Nat → Bool) (o w : Nat) : Nat → Nat := fun l => if C l then (if x l = o then w else o) else x l
def pol (x : Nat → Nat) (o w : Nat) : Nat → Bool := fun l => decide (x l = o) || decide (x l = w)
noncomputable def cmpn (m : Nat) (a b : Nat → Nat) (x : Nat → Nat) (o w l : Nat) : Nat → Bool := rch m a b (pol x o w) (fun k => decide (k = l))
def tsp (m : Nat) (a b : Nat → Nat) (k : Nat) (x y : Nat → Nat) : Prop := ∃ o w l, o < w ∧ w < k ∧ l < m ∧ pol x o w l = true ∧ ∀ j, j < m → y j = fl x (cmpn m a b x o w l) o w j
def rea (m : Nat) (a b : Nat → Nat) (k : Nat) : Nat → (Nat → Nat) → (Nat → Nat) → Prop
  | 0, x, y => ∀ l, l < m → x l = y l
  | t + 1, x, y => rea m a b k t x y ∨ ∃ z, rea m a b k t x z ∧ tsp m a b k z y
def RF (m : Nat) (a b : Nat → Nat) (k : Nat) (x y : Nat → Nat) : Prop := ∃ t, rea m a b k t x y
section
variable {m : Nat} {a b : Nat → Nat} {k : Nat} {x y z : Nat → Nat}
theorem pol_iff {o w l : Nat} : pol x o w l = true ↔ x l = o ∨ x l = w := by simp [pol]
theorem cmpn_cong {x' : Nat → Nat} {o w l : Nat} (h : ∀ j, j < m → pol x o w j = pol x' o w j) : ∀ j, j < m → cmpn m a b x o w l j = cmpn m a b x' o w l j := rch_cong h (fun _ _ _ => rfl)
theorem pol_cong {x' : Nat → Nat} {o w : Nat} (h : ∀ j, j < m → x j = x' j) : ∀ j, j < m → pol x o w j = pol x' o w j := fun j hj => by unfold pol; rw [h j hj]
theorem fl_cong {x' : Nat → Nat} {o w l : Nat} (h : ∀ j, j < m → x j = x' j) : ∀ j, j < m → fl x (cmpn m a b x o w l) o w j = fl x' (cmpn m a b x' o w l) o w j := fun j hj => by
  unfold fl
  rw [cmpn_cong (pol_cong h) j hj, h j hj]
theorem tsp_cong {x' y' : Nat → Nat} (hx : ∀ j, j < m → x j = x' j) (hy : ∀ j, j < m → y j = y' j) (h : tsp m a b k x y) : tsp m a b k x' y' := by
  obtain ⟨o, w, l, h1, h2, h3, h4, h5⟩ := h
  refine ⟨o, w, l, h1, h2, h3, by rw [← pol_cong hx l h3]; exact h4, fun j hj => ?_⟩
  rw [← hy j hj, h5 j hj, fl_cong hx j hj]
theorem rea_cong {x' : Nat → Nat} (hx : ∀ j, j < m → x j = x' j) : ∀ {t : Nat} {y y' : Nat → Nat}, (∀ j, j < m → y j = y' j) → rea m a b k t x y → rea m a b k t x' y'
  | 0, y, y', hy, h => fun l hl => by rw [← hx l hl, h l hl, hy l hl]
  | t + 1, y, y', hy, h => by
    rcases h with h | ⟨z, h1, h2⟩
    · exact Or.inl (rea_cong hx hy h)
    · exact Or.inr ⟨z, rea_cong hx (fun _ _ => rfl) h1, tsp_cong (fun _ _ => rfl) hy h2⟩
theorem rea_mono : ∀ {t s : Nat}, t ≤ s → rea m a b k t x y → rea m a b k s x y := by
  intro t s h
  induction s with
  | zero => rw [Nat.le_zero.mp h]; exact id
  | succ s ih =>
    by_cases e : t = s + 1
    · rw [e]; exact id
    · exact fun g => Or.inl (ih (by omega) g)
theorem rea_tr {s : Nat} (h : rea m a b k s x y) : ∀ {t : Nat} {z : Nat → Nat}, rea m a b k t y z → rea m a b k (s + t) x z
  | 0, z, g => rea_cong (fun _ _ => rfl) g h
  | t + 1, z, g => by
    rcases g with g | ⟨u, g1, g2⟩
    · exact Or.inl (rea_tr h g)
    · exact Or.inr ⟨u, rea_tr h g1, g2⟩
theorem fl_out {o w l j : Nat} (h : cmpn m a b x o w l j = true) : x j = o ∨ x j = w := pol_iff.mp (rch_pool h)
theorem tsp_sy (h : tsp m a b k x y) : tsp m a b k y x := by
  obtain ⟨o, w, l, h1, h2, h3, h4, h5⟩ := h
  have ep : ∀ j, j < m → pol y o w j = pol x o w j := fun j hj => by
    have e := h5 j hj
    unfold fl at e
    cases z : cmpn m a b x o w l j with
    | false =>
      rw [z] at e
      have e : y j = x j := e
      unfold pol
      rw [e]
    | true =>
      rw [z, if_pos rfl] at e
      rw [pol_iff.mpr (fl_out z)]
      refine pol_iff.mpr ?_
      by_cases u : x j = o
      · rw [if_pos u] at e; exact Or.inr e
      · rw [if_neg u] at e; exact Or.inl e
  refine ⟨o, w, l, h1, h2, h3, by rw [ep l h3]; exact h4, fun j hj => ?_⟩
  have e := h5 j hj
  unfold fl at e ⊢
  rw [cmpn_cong ep j hj]
  cases z : cmpn m a b x o w l j with
  | false => rw [z] at e; exact e.symm
  | true =>
    rw [z, if_pos rfl] at e
    rw [if_pos rfl]
    rcases fl_out z with u | u
    · rw [if_pos u] at e
      rw [if_neg (by omega), u]
    · rw [if_neg (by omega)] at e
      rw [if_pos e, u]
theorem RF_rf : RF m a b k x x := ⟨0, fun _ _ => rfl⟩
theorem RF_eq (h : ∀ l, l < m → x l = y l) : RF m a b k x y := ⟨0, h⟩
theorem RF_tr (h : RF m a b k x y) (g : RF m a b k y z) : RF m a b k x z := by
  obtain ⟨s, h⟩ := h
  obtain ⟨t, g⟩ := g
  exact ⟨s + t, rea_tr h g⟩
theorem RF_st (h : tsp m a b k x y) : RF m a b k x y := ⟨1, Or.inr ⟨x, fun _ _ => rfl, h⟩⟩
theorem RF_sy (h : RF m a b k x y) : RF m a b k y x := by
  obtain ⟨t, h⟩ := h
  induction t generalizing y with
  | zero => exact ⟨0, fun l hl => (h l hl).symm⟩
  | succ t ih =>
    rcases h with h | ⟨z, h1, h2⟩
    · exact ih h
    · exact RF_tr (RF_st (tsp_sy h2)) (ih h1)
theorem RF_cong {x' y' : Nat → Nat} (hx : ∀ j, j < m → x j = x' j) (hy : ∀ j, j < m → y j = y' j) (h : RF m a b k x y) : RF m a b k x' y' := by
  obtain ⟨t, h⟩ := h
  exact ⟨t, rea_cong hx hy h⟩
theorem tsp_bl (h : tsp m a b k x y) (hx : ∀ l, l < m → x l < k) : ∀ l, l < m → y l < k := by
  obtain ⟨o, w, l, h1, h2, h3, h4, h5⟩ := h
  intro j hj
  rw [h5 j hj]
  unfold fl
  split
  · split <;> omega
  · exact hx j hj
theorem rea_bl : ∀ {t : Nat} {y : Nat → Nat}, rea m a b k t x y → (∀ l, l < m → x l < k) → ∀ l, l < m → y l < k
  | 0, y, h, hx, l, hl => by rw [← h l hl]; exact hx l hl
  | t + 1, y, h, hx, l, hl => by
    rcases h with h | ⟨z, h1, h2⟩
    · exact rea_bl h hx l hl
    · exact tsp_bl h2 (rea_bl h1 hx) l hl
/-- two systems that stand for the same kinds have the same size -/
theorem ct_rep {X Y : Nat → Bool} {N M : Nat} {d e : Nat → Nat → Nat} (h1 : ∀ i, i < N → X i = true → ∃ j, j < M ∧ Y j = true ∧ RF m a b k (d i) (e j)) (h2 : ∀ i i', i < N → i' < N → X i = true → X i' = true → RF m a b k (d i) (d i') → i = i') : fb_ct X N ≤ fb_ct Y M := by
  obtain ⟨f, hf⟩ := Classical.axiomOfChoice (r := fun (i j : Nat) => i < N → X i = true → j < M ∧ Y j = true ∧ RF m a b k (d i) (e j)) (fun i => by
    by_cases h : i < N ∧ X i = true
    · obtain ⟨j, hj⟩ := h1 i h.1 h.2
      exact ⟨j, fun _ _ => hj⟩
    · exact ⟨0, fun x1 x2 => absurd ⟨x1, x2⟩ h⟩)
  rw [ct_by (f := f) (K := M) (fun i hi hx => (hf i hi hx).1), ← sumN_ct]
  refine sumN_mono (fun q _ => ?_)
  have one : fb_ct (fun l => X l && decide (f l = q)) N ≤ 1 := ct_le1 (fun i j hi hj g1 g2 => by
    simp only [Bool.and_eq_true, decide_eq_true_eq] at g1 g2
    refine h2 i j hi hj g1.1 g2.1 ?_
    have r1 := (hf i hi g1.1).2.2
    have r2 := (hf j hj g2.1).2.2
    rw [g1.2] at r1
    rw [g2.2] at r2
    exact RF_tr r1 (RF_sy r2))
  cases z : Y q with
  | true => rw [if_pos rfl]; exact one
  | false =>
    rw [fb_ct_zero.mpr (fun l hl => ?_)]
    · exact Nat.zero_le _
    · cases y : X l with
      | false => rfl
      | true =>
        by_cases e : f l = q
        · have := (hf l hl y).2.1
          rw [e, z] at this
          cases this
        · rw [decide_eq_false e]; rfl
end
