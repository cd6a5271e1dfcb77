/-! sides of a network: class and reference -/
theorem ct_strict {p q : Nat → Bool} {x : Nat} : ∀ {n : Nat}, (∀ k, k < n → p k = true → q k = true) → x < n → p x = false → q x = true → fb_ct p n < fb_ct q n
  | 0, _, hx, _, _ => absurd hx (Nat.not_lt_zero _)
  | n + 1, h, hx, h0, h1 => by
    rw [fb_ct_succ, fb_ct_succ]
    by_cases e : x = n
    · subst e
      have := fb_ct_sub (p := p) (q := q) (n := x) (fun k hk => h k (by omega))
      rw [h0, h1]
      simp
      omega
    · have := ct_strict (p := p) (q := q) (x := x) (n := n) (fun k hk => h k (by omega)) (by omega) h0 h1
      have h2 := h n (by omega)
      cases z : p n with
      | false => cases q n <;> simp <;> omega
      | true => rw [h2 z]; simp; omega
theorem b4 : ∀ x y z w : Bool, x ≠ y → z ≠ w → (x = z ↔ y = w) := by decide
/-- joined by lines -/
def cn (m : Nat) (a b : Nat → Nat) (p q : Nat) : Prop := ∀ T : Nat → Prop, T p → (∀ k, k < m → (T (a k) ↔ T (b k))) → T q
def ppr (m : Nat) (a b : Nat → Nat) (F : Nat → Bool) : Prop := ∀ k, k < m → F (a k) ≠ F (b k)
def lsr (n m : Nat) (a b : Nat → Nat) (p q : Nat) : Prop := p < n ∧ cn m a b p q ∧ ∀ r, r < n → cn m a b r q → p ≤ r
def sdF (n m : Nat) (a b : Nat → Nat) (F : Nat → Bool) : Prop := ppr m a b F ∧ ∀ q, q < n → ∃ p, F p = true ∧ lsr n m a b p q
section
variable {n m : Nat} {a b : Nat → Nat} {σ : kk_St} {c : Nat → Int32}
theorem cn_rf (p : Nat) : cn m a b p p := fun _ h _ => h
theorem cn_st {p k : Nat} (hk : k < m) : cn m a b p (a k) ↔ cn m a b p (b k) := ⟨fun h T h0 h1 => (h1 k hk).mp (h T h0 h1), fun h T h0 h1 => (h1 k hk).mpr (h T h0 h1)⟩
theorem cn_sy {p q : Nat} (h : cn m a b p q) : cn m a b q p := by
  refine h (fun x => cn m a b x p) (cn_rf p) (fun k hk => ⟨fun z T h0 h1 => z T ((h1 k hk).mpr h0) h1, fun z T h0 h1 => z T ((h1 k hk).mp h0) h1⟩)
theorem cn_tr {p q r : Nat} (h : cn m a b p q) (g : cn m a b q r) : cn m a b p r := fun T h0 h1 => g T (h T h0 h1) h1
theorem lsr_eq {p p' q q' : Nat} (h : lsr n m a b p q) (h' : lsr n m a b p' q') (hq : cn m a b q q') : p = p' := by
  have h1 := h.2.2 p' h'.1 (cn_tr h'.2.1 (cn_sy hq))
  have h2 := h'.2.2 p h.1 (cn_tr h.2.1 hq)
  omega
theorem lsr_st {p q q' : Nat} (h : lsr n m a b p q) (hq : cn m a b q q') : lsr n m a b p q' := ⟨h.1, cn_tr h.2.1 hq, fun r hr hc => h.2.2 r hr (cn_tr hc (cn_sy hq))⟩
theorem sdF_eq {F F' : Nat → Bool} (h : sdF n m a b F) (h' : sdF n m a b F') : ∀ q, q < n → F q = F' q := by
  intro q hq
  obtain ⟨p, p1, p2⟩ := h.2 q hq
  obtain ⟨p', p1', p2'⟩ := h'.2 q hq
  have e := lsr_eq p2 p2' (cn_rf q)
  subst e
  refine p2.2.1 (fun x => F x = F' x) (by rw [p1, p1']) (fun k hk => ?_)
  exact b4 _ _ _ _ (h.1 k hk) (h'.1 k hk)
theorem adj_ex {p q : Nat} : adj m a b p q = true ↔ p ≠ q ∧ ∃ k, k < m ∧ inc a b k p = true ∧ inc a b k q = true := by
  unfold adj
  rw [Bool.and_eq_true, anyb_iff]
  simp
theorem adj_ln {p q : Nat} (h : adj m a b p q = true) : ∃ k, k < m ∧ ((a k = p ∧ b k = q) ∨ (a k = q ∧ b k = p)) := by
  obtain ⟨h0, k, hk, h1, h2⟩ := adj_ex.mp h
  refine ⟨k, hk, ?_⟩
  rcases inc_iff.mp h1 with z | z
  · rcases inc_iff.mp h2 with y | y
    · exact absurd (z.symm.trans y) h0
    · exact Or.inl ⟨z, y⟩
  · rcases inc_iff.mp h2 with y | y
    · exact Or.inr ⟨y, z⟩
    · exact absurd (z.symm.trans y) h0
theorem adj_of (W : Wf n m a b) {k : Nat} (hk : k < m) : adj m a b (a k) (b k) = true ∧ adj m a b (b k) (a k) = true := by
  have := W.2.2.2.1 k hk
  exact ⟨adj_ex.mpr ⟨by omega, k, hk, inc_iff.mpr (Or.inl rfl), inc_iff.mpr (Or.inr rfl)⟩, adj_ex.mpr ⟨by omega, k, hk, inc_iff.mpr (Or.inr rfl), inc_iff.mpr (Or.inl rfl)⟩⟩
theorem adj_lt (W : Wf n m a b) {p q : Nat} (h : adj m a b p q = true) : p < n ∧ q < n := by
  obtain ⟨k, hk, h⟩ := adj_ln h
  have := W.2.2.2.1 k hk
  rcases h with h | h <;> omega
theorem adj_cn {p q : Nat} (h : adj m a b p q = true) : cn m a b p q := by
  obtain ⟨k, hk, h⟩ := adj_ln h
  rcases h with ⟨h1, h2⟩ | ⟨h1, h2⟩
  · rw [← h1, ← h2]; exact (cn_st hk).mp (cn_rf _)
  · rw [← h1, ← h2]; exact (cn_st hk).mpr (cn_rf _)
theorem adj_F {F : Nat → Bool} (hF : ppr m a b F) {p q : Nat} (h : adj m a b p q = true) : F p ≠ F q := by
  obtain ⟨k, hk, h⟩ := adj_ln h
  rcases h with ⟨h1, h2⟩ | ⟨h1, h2⟩
  · rw [← h1, ← h2]; exact hF k hk
  · rw [← h1, ← h2]; exact Ne.symm (hF k hk)
/-- what is next to a set -/
def nbS (n m : Nat) (a b : Nat → Nat) (S : Nat → Bool) (q : Nat) : Bool := anyb (fun p => S p && adj m a b p q) n
theorem nbS_iff {S : Nat → Bool} {q : Nat} : nbS n m a b S q = true ↔ ∃ p, p < n ∧ S p = true ∧ adj m a b p q = true := by
  unfold nbS
  rw [anyb_iff]
  simp
theorem nbS_cong {S S' : Nat → Bool} (h : ∀ p, p < n → S p = S' p) (q : Nat) : nbS n m a b S q = nbS n m a b S' q := anyb_cong (fun p hp => by rw [h p hp])
theorem sc_neighbours (N : RN n m a b σ) (W : Wf n m a b) {S : Nat → Bool} {Q : Int32 → Prop} (h : Q (mk (nbS n m a b S) n)) : f_X6_neighbours (mk S n) σ Q := by
  have hn := W.2.1
  unfold f_X6_neighbours
  refine lf_2_1 n (by omega) (fun k x => x = mk (fun q => anyb (fun p => S p && adj m a b p q) k) n) (Nat.zero_le _) (mk_0 n).symm ?_ ?_
  · rintro rec k _ hk rfl hrec
    rw [N.1]
    refine br_f (nI_ge hk (by omega)) ?_
    dsimp only [kk_j1]
    constructor
    · intro z
      rw [z_bit0 _ (by omega), mk_bt _ _ (by omega)] at z
      have z : S k = false := by simpa [hk] using z
      refine hrec _ (mk_cong (fun q _ => ?_))
      show _ = (anyb _ k || _)
      dsimp only
      rw [z]; simp
    · intro z
      rw [z_bit0 _ (by omega), mk_bt _ _ (by omega)] at z
      have z : S k = true := by simpa [hk] using z
      refine ⟨vp_lt (by omega) (by omega), ?_⟩
      rintro _ rfl
      refine hrec _ ?_
      rw [rd_nI (by omega), N.2.2.2.2.2.2.2 k (by omega), ← mk_grow (n := n) (n' := 9) (P := adj m a b k) hn (fun q h1 _ => by
        cases y : adj m a b k q with
        | false => rfl
        | true => have := (adj_lt W y).2; omega), mk_or]
      refine mk_cong (fun q _ => ?_)
      show _ = (anyb _ k || _)
      dsimp only
      rw [z]; simp
  · rintro rec _ rfl
    rw [N.1]
    exact br_t (nI_le (Nat.le_refl _) (by omega)) h
/-- what one comes to from a post in an even and an odd number of steps -/
def fld (n m : Nat) (a b : Nat → Nat) (p : Nat) : Nat → (Nat → Bool) × (Nat → Bool)
  | 0 => (fun q => decide (q = p), fun _ => false)
  | s + 1 => (fun q => (fld n m a b p s).1 q || nbS n m a b (fun r => (fld n m a b p s).2 r || nbS n m a b (fld n m a b p s).1 r) q, fun r => (fld n m a b p s).2 r || nbS n m a b (fld n m a b p s).1 r)
theorem fld_ok (W : Wf n m a b) {p : Nat} (hp : p < n) : ∀ s q, ((fld n m a b p s).1 q = true → cn m a b p q ∧ ∀ F, ppr m a b F → F q = F p) ∧ ((fld n m a b p s).2 q = true → cn m a b p q ∧ ∀ F, ppr m a b F → F q ≠ F p)
  | 0, q => ⟨fun h => by
      have : q = p := by simpa [fld] using h
      subst this
      exact ⟨cn_rf q, fun _ _ => rfl⟩, fun h => by cases h⟩
  | s + 1, q => by
    have ih := fld_ok W hp s
    have h2 : ∀ r, ((fld n m a b p s).2 r || nbS n m a b (fld n m a b p s).1 r) = true → cn m a b p r ∧ ∀ F, ppr m a b F → F r ≠ F p := by
      intro r h
      rcases Bool.or_eq_true _ _ ▸ h with h | h
      · exact (ih r).2 h
      · obtain ⟨t, t1, t2, t3⟩ := nbS_iff.mp h
        obtain ⟨g1, g2⟩ := (ih t).1 t2
        refine ⟨cn_tr g1 (adj_cn t3), fun F hF e => ?_⟩
        exact adj_F hF t3 ((g2 F hF).trans e.symm)
    refine ⟨fun h => ?_, h2 q⟩
    have h : ((fld n m a b p s).1 q || nbS n m a b (fun r => (fld n m a b p s).2 r || nbS n m a b (fld n m a b p s).1 r) q) = true := h
    rcases Bool.or_eq_true _ _ ▸ h with h | h
    · exact (ih q).1 h
    · obtain ⟨t, t1, t2, t3⟩ := nbS_iff.mp h
      obtain ⟨g1, g2⟩ := h2 t t2
      refine ⟨cn_tr g1 (adj_cn t3), fun F hF => ?_⟩
      have e1 := adj_F hF t3
      have e2 := g2 F hF
      cases x : F q <;> cases y : F t <;> cases z : F p <;> simp_all
def fcl (n m : Nat) (a b : Nat → Nat) (f : (Nat → Bool) × (Nat → Bool)) : Prop := (∀ q, q < n → nbS n m a b f.1 q = true → f.2 q = true) ∧ ∀ q, q < n → nbS n m a b f.2 q = true → f.1 q = true
theorem fld_cl {p : Nat} (hp : p < n) : ∀ s, fcl n m a b (fld n m a b p s) ∨ s + 1 ≤ fb_ct (fld n m a b p s).1 n
  | 0 => Or.inr (by
      have e : (fld n m a b p 0).1 = fun q => decide (p = q) := by funext q; show decide (q = p) = _; simp [eq_comm]
      rw [e, ct_one hp]; exact Nat.le_refl _)
  | s + 1 => by
    have def1 : ∀ q, (fld n m a b p (s + 1)).1 q = ((fld n m a b p s).1 q || nbS n m a b (fld n m a b p (s + 1)).2 q) := fun _ => rfl
    have def2 : ∀ q, (fld n m a b p (s + 1)).2 q = ((fld n m a b p s).2 q || nbS n m a b (fld n m a b p s).1 q) := fun _ => rfl
    have same : (∀ q, q < n → (fld n m a b p (s + 1)).1 q = (fld n m a b p s).1 q) → fcl n m a b (fld n m a b p (s + 1)) := by
      intro h
      refine ⟨fun q hq z => ?_, fun q hq z => ?_⟩
      · rw [nbS_cong h] at z
        rw [def2, z]; simp
      · rw [def1, z]; simp
    by_cases hx : ∃ q, q < n ∧ (fld n m a b p s).1 q = false ∧ (fld n m a b p (s + 1)).1 q = true
    · obtain ⟨q, q1, q2, q3⟩ := hx
      rcases fld_cl hp s with h | h
      · exfalso
        have e2 : ∀ r, r < n → (fld n m a b p (s + 1)).2 r = (fld n m a b p s).2 r := fun r hr => by
          rw [def2]
          cases z : nbS n m a b (fld n m a b p s).1 r with
          | false => simp
          | true => rw [h.1 r hr z]; rfl
        rw [def1, q2, nbS_cong e2, Bool.false_or] at q3
        rw [h.2 q q1 q3] at q2
        cases q2
      · refine Or.inr ?_
        have := ct_strict (p := (fld n m a b p s).1) (q := (fld n m a b p (s + 1)).1) (x := q) (n := n) (fun k _ z => by rw [def1, z]; rfl) q1 q2 q3
        omega
    · refine Or.inl (same (fun q hq => ?_))
      cases z : (fld n m a b p s).1 q with
      | true => rw [def1, z]; rfl
      | false =>
        cases y : (fld n m a b p (s + 1)).1 q with
        | false => rfl
        | true => exact absurd ⟨q, hq, z, y⟩ hx
theorem fld_end {p : Nat} (hp : p < n) : fcl n m a b (fld n m a b p n) := by
  rcases fld_cl (m := m) (a := a) (b := b) hp n with h | h
  · exact h
  · have := fb_ct_le (fld n m a b p n).1 n
    omega
theorem fld_p {p : Nat} : ∀ s, (fld n m a b p s).1 p = true
  | 0 => by simp [fld]
  | s + 1 => by
    show ((fld n m a b p s).1 p || _) = true
    rw [fld_p s]; rfl
/-- one part of two, by the first of both -/
theorem sc_onePart (N : RN n m a b σ) (W : Wf n m a b) {Q : Int32 → Prop} (h1 : ∀ F, sdF n m a b F → Q (mk F n)) (h0 : (¬ ∃ F, ppr m a b F) → Q 0) : f_X6_onePart σ Q := by
  have hn := W.2.1
  unfold f_X6_onePart
  refine lf_3_2 n (by omega) (fun k x y => ∃ S A : Nat → Bool, x = mk S n ∧ y = mk A n ∧ (∀ l, l < m → S (a l) = S (b l)) ∧ (∀ l, l < m → S (a l) = true → A (a l) ≠ A (b l)) ∧ (∀ j, j < k → S j = true) ∧ (∀ q, q < n → S q = true → ∃ p, A p = true ∧ lsr n m a b p q) ∧ ∀ q, A q = true → S q = true) (Nat.zero_le _) ⟨fun _ => false, fun _ => false, (mk_0 n).symm, (mk_0 n).symm, fun _ _ => rfl, fun _ _ h => (by cases h), fun _ h => absurd h (Nat.not_lt_zero _), fun _ _ h => (by cases h), fun _ h => (by cases h)⟩ ?_ ?_
  · rintro rec k _ _ hk ⟨S, A, rfl, rfl, i1, i2, i3, i4, i5⟩ hrec
    rw [N.1]
    refine br_f (nI_ge hk (by omega)) ?_
    dsimp only [kk_j2]
    constructor
    · intro z
      rw [z_bit0 _ (by omega), mk_bt _ _ (by omega)] at z
      have z : S k = true := by simpa [hk] using z
      refine hrec _ _ ⟨S, A, rfl, rfl, i1, i2, fun j hj => ?_, i4, i5⟩
      by_cases e : j = k
      · rw [e]; exact z
      · exact i3 j (by omega)
    · intro z
      rw [z_bit0 _ (by omega), mk_bt _ _ (by omega)] at z
      have z : S k = false := by simpa [hk] using z
      rintro _ rfl
      refine lf_3_2 n (by omega) (fun s x y => x = mk (fld n m a b k s).1 n ∧ y = mk (fld n m a b k s).2 n) (Nat.zero_le _) ⟨mk_one hk (by omega), (mk_0 n).symm⟩ ?_ ?_
      · rintro rec' s _ _ hs ⟨rfl, rfl⟩ hrec'
        refine br_f (nI_ge hs (by omega)) ?_
        refine sc_neighbours N W ?_
        rw [mk_or]
        refine sc_neighbours N W ?_
        rw [mk_or]
        exact hrec' _ _ ⟨rfl, rfl⟩
      · rintro rec' _ _ ⟨rfl, rfl⟩
        refine br_t (nI_le (Nat.le_refl _) (by omega)) ?_
        have ok := fld_ok W hk n
        have cl := fld_end (m := m) (a := a) (b := b) hk
        have sC : ∀ x y, cn m a b x y → S x = S y := fun x y h => h (fun r => S x = S r) rfl (fun l hl => by rw [i1 l hl])
        have out : ∀ q, cn m a b k q → S q = false := fun q h => (sC k q h) ▸ z
        rw [mk_and, mk_or, mk_or, mk_or, mk_eq0 (by omega)]
        constructor
        · rintro dj _ rfl
          have dj : ∀ q, q < n → (fld n m a b k n).1 q = true → (fld n m a b k n).2 q = true → False := fun q hq e1 e2 => by
            have := dj q hq
            rw [e1, e2] at this
            cases this
          have H := fun l (hl : l < m) => W.2.2.2.1 l hl
          have hn2 : ∀ p q, adj m a b p q = true → (fld n m a b k n).1 p = true → (fld n m a b k n).2 q = true := fun p q h e => cl.1 q (adj_lt W h).2 (nbS_iff.mpr ⟨p, (adj_lt W h).1, e, h⟩)
          have hn1 : ∀ p q, adj m a b p q = true → (fld n m a b k n).2 p = true → (fld n m a b k n).1 q = true := fun p q h e => cl.2 q (adj_lt W h).2 (nbS_iff.mpr ⟨p, (adj_lt W h).1, e, h⟩)
          have sw1 : ∀ p q, adj m a b p q = true → adj m a b q p = true → (fld n m a b k n).1 p = (fld n m a b k n).2 q := fun p q h h' => by
            cases x : (fld n m a b k n).1 p with
            | true => rw [hn2 p q h x]
            | false =>
              cases y : (fld n m a b k n).2 q with
              | false => rfl
              | true => rw [hn1 q p h' y] at x; cases x
          refine hrec _ _ ⟨_, _, rfl, rfl, fun l hl => ?_, fun l hl e => ?_, fun j hj => ?_, fun q hq e => ?_, fun q e => ?_⟩
          · obtain ⟨x1, x2⟩ := adj_of W hl
            rw [i1 l hl, sw1 _ _ x1 x2, sw1 _ _ x2 x1]
            cases S (b l) <;> cases (fld n m a b k n).2 (a l) <;> cases (fld n m a b k n).2 (b l) <;> rfl
          · obtain ⟨x1, x2⟩ := adj_of W hl
            have hw := H l hl
            cases y : S (a l) with
            | true =>
              have g := i2 l hl y
              have n1 : (fld n m a b k n).1 (a l) = false := by
                cases t : (fld n m a b k n).1 (a l) with
                | false => rfl
                | true => rw [out _ ((ok _).1 t).1] at y; cases y
              have n2 : (fld n m a b k n).1 (b l) = false := by
                cases t : (fld n m a b k n).1 (b l) with
                | false => rfl
                | true => rw [i1 l hl, out _ ((ok _).1 t).1] at y; cases y
              rw [n1, n2]
              simpa using g
            | false =>
              have y2 := (i1 l hl).symm.trans y
              have A1 : A (a l) = false := by
                cases t : A (a l) with
                | false => rfl
                | true => rw [i5 _ t] at y; cases y
              have A2 : A (b l) = false := by
                cases t : A (b l) with
                | false => rfl
                | true => rw [i5 _ t] at y2; cases y2
              rw [y, Bool.false_or] at e
              rw [A1, A2, Bool.false_or, Bool.false_or]
              intro eq
              cases t : (fld n m a b k n).1 (a l) with
              | true =>
                have t2 := hn2 _ _ x1 t
                exact dj (b l) hw.2 (eq ▸ t) t2
              | false =>
                rw [t, Bool.false_or] at e
                have t2 := hn1 _ _ x1 e
                rw [← eq, t] at t2
                cases t2
          · by_cases ej : j = k
            · rw [ej, fld_p n]; simp
            · rw [i3 j (by omega)]; rfl
          · cases y : S q with
            | true =>
              obtain ⟨p, p1, p2⟩ := i4 q hq y
              exact ⟨p, by rw [p1]; rfl, p2⟩
            | false =>
              rw [y, Bool.false_or] at e
              have hc : cn m a b k q := by
                rcases Bool.or_eq_true _ _ ▸ e with e | e
                · exact ((ok q).1 e).1
                · exact ((ok q).2 e).1
              refine ⟨k, by rw [fld_p n]; simp, hk, hc, fun r hr hcr => ?_⟩
              rcases Nat.lt_or_ge r k with g | g
              · have := i3 r g
                rw [sC r k (cn_tr hcr (cn_sy hc)), z] at this
                cases this
              · exact g
          · rcases Bool.or_eq_true _ _ ▸ e with e | e
            · rw [i5 q e]; rfl
            · rw [e]; simp
        · intro dj
          refine h0 (fun ⟨F, hF⟩ => dj (fun q hq => ?_))
          cases x : (fld n m a b k n).1 q with
          | false => rfl
          | true =>
            cases y : (fld n m a b k n).2 q with
            | false => rfl
            | true => exact absurd (((ok q).1 x).2 F hF) (((ok q).2 y).2 F hF)
  · rintro rec _ _ ⟨S, A, rfl, rfl, i1, i2, i3, i4, i5⟩
    rw [N.1]
    refine br_t (nI_le (Nat.le_refl _) (by omega)) (h1 A ⟨fun l hl => i2 l hl (i3 _ ?_), fun q hq => i4 q hq (i3 q hq)⟩)
    have := W.2.2.2.1 l hl
    omega
end
