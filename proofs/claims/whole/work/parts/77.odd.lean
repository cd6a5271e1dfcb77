/-! odd rounds -/
theorem php : ∀ (n : Nat) (f : Nat → Nat), (∀ i, i ≤ n → f i < n) → ∃ i j, i < j ∧ j ≤ n ∧ f i = f j
  | 0, f, h => absurd (h 0 (Nat.le_refl _)) (Nat.not_lt_zero _)
  | n + 1, f, h => by
    by_cases hx : ∃ i, i ≤ n ∧ f i = f (n + 1)
    · obtain ⟨i, h1, h2⟩ := hx
      exact ⟨i, n + 1, by omega, Nat.le_refl _, h2⟩
    · have hx : ∀ i, i ≤ n → f i ≠ f (n + 1) := fun i hi z => hx ⟨i, hi, z⟩
      obtain ⟨i, j, h1, h2, h3⟩ := php n (fun i => if f i = n then f (n + 1) else f i) (fun i hi => by
        have g1 := h i (by omega)
        have g2 := h (n + 1) (Nat.le_refl _)
        have g3 := hx i hi
        by_cases e : f i = n
        · rw [if_pos e]; omega
        · rw [if_neg e]; omega)
      refine ⟨i, j, h1, by omega, ?_⟩
      have e1 := hx i (by omega)
      have e2 := hx j h2
      by_cases x : f i = n
      · by_cases y : f j = n
        · rw [x, y]
        · rw [if_pos x, if_neg y] at h3; exact absurd h3.symm e2
      · by_cases y : f j = n
        · rw [if_neg x, if_pos y] at h3; exact absurd h3 e1
        · rw [if_neg x, if_neg y] at h3; exact h3
/-- posts to which a walk of just so many lines comes -/
def wl (n m : Nat) (a b : Nat → Nat) (p : Nat) : Nat → Nat → Bool
  | 0 => fun q => decide (q = p)
  | l + 1 => nbS n m a b (wl n m a b p l)
def Wk (m : Nat) (a b : Nat → Nat) (w : Nat → Nat) (l : Nat) : Prop := ∀ i, i < l → adj m a b (w i) (w (i + 1)) = true
def ocl (n m : Nat) (a b : Nat → Nat) (l : Nat) : Prop := l % 2 = 1 ∧ ∃ p, p < n ∧ wl n m a b p l p = true
section
variable {n m : Nat} {a b : Nat → Nat} {σ : kk_St} {c : Nat → Int32}
theorem wl_st {p l q r : Nat} (hq : q < n) (h : wl n m a b p l q = true) (ha : adj m a b q r = true) : wl n m a b p (l + 1) r = true := nbS_iff.mpr ⟨q, hq, h, ha⟩
theorem wl_ex {p : Nat} : ∀ {l q : Nat}, wl n m a b p l q = true → ∃ w, w 0 = p ∧ w l = q ∧ Wk m a b w l
  | 0, q, h => ⟨fun _ => p, rfl, by
      have : q = p := by simpa [wl] using h
      exact this.symm, fun _ h => absurd h (Nat.not_lt_zero _)⟩
  | l + 1, q, h => by
    obtain ⟨r, r1, r2, r3⟩ := nbS_iff.mp h
    obtain ⟨w, w1, w2, w3⟩ := wl_ex r2
    refine ⟨fun i => if i ≤ l then w i else q, by dsimp only; rw [if_pos (Nat.zero_le _)]; exact w1, by dsimp only; rw [if_neg (by omega)], fun i hi => ?_⟩
    dsimp only
    by_cases e : i = l
    · subst e
      rw [if_pos (Nat.le_refl _), if_neg (by omega), w2]
      exact r3
    · rw [if_pos (by omega), if_pos (by omega)]
      exact w3 i (by omega)
theorem wl_of (W : Wf n m a b) {w : Nat → Nat} : ∀ {l : Nat}, Wk m a b w l → wl n m a b (w 0) l (w l) = true
  | 0, _ => by simp [wl]
  | l + 1, h => wl_st (adj_lt W (h l (by omega))).1 (wl_of W (fun i hi => h i (by omega))) (h l (by omega))
theorem Wk_lt (W : Wf n m a b) {w : Nat → Nat} {l i : Nat} (h : Wk m a b w l) (hi : i < l) : w i < n := (adj_lt W (h i hi)).1
theorem odd_short (W : Wf n m a b) : ∀ (L l : Nat), l ≤ L → ocl n m a b l → ∃ l', l' ≤ n ∧ l' ≤ l ∧ ocl n m a b l'
  | 0, l, hl, h => absurd h.1 (by rw [Nat.le_zero.mp hl]; decide)
  | L + 1, l, hl, h => by
    by_cases hn : l ≤ n
    · exact ⟨l, hn, Nat.le_refl _, h⟩
    obtain ⟨ho, p, hp, hw⟩ := h
    obtain ⟨w, w1, w2, w3⟩ := wl_ex hw
    obtain ⟨i, j, h1, h2, h3⟩ := php n w (fun i hi => Wk_lt W w3 (by omega))
    by_cases hx : (j - i) % 2 = 1
    · have k1 : Wk m a b (fun t => w (i + t)) (j - i) := fun t ht => w3 (i + t) (by omega)
      have := wl_of W k1
      rw [Nat.add_zero, show i + (j - i) = j by omega, ← h3] at this
      obtain ⟨l', g1, g2, g3⟩ := odd_short W L (j - i) (by omega) ⟨hx, w i, Wk_lt W w3 (by omega), this⟩
      exact ⟨l', g1, by omega, g3⟩
    · have k1 : Wk m a b (fun t => if t ≤ i then w t else w (t + (j - i))) (l - (j - i)) := fun t ht => by
        dsimp only
        rcases Nat.lt_trichotomy t i with e | e | e
        · rw [if_pos (by omega), if_pos (by omega)]; exact w3 t (by omega)
        · subst e
          rw [if_pos (Nat.le_refl _), if_neg (by omega), h3, show t + 1 + (j - t) = j + 1 by omega]
          exact w3 j (by omega)
        · rw [if_neg (by omega), if_neg (by omega), show t + 1 + (j - i) = t + (j - i) + 1 by omega]
          exact w3 (t + (j - i)) (by omega)
      have := wl_of W k1
      rw [if_pos (Nat.zero_le _), if_neg (by omega), show l - (j - i) + (j - i) = l by omega, w1, w2] at this
      obtain ⟨l', g1, g2, g3⟩ := odd_short W L (l - (j - i)) (by omega) ⟨by omega, p, hp, this⟩
      exact ⟨l', g1, by omega, g3⟩
/-- the least of a set of numbers, or 0 -/
def lst0 (S : Nat → Prop) (x : Int32) : Prop := (x = 0 ∧ ∀ l, ¬ S l) ∨ ∃ L, 1 ≤ L ∧ L ≤ 9 ∧ x = nI L ∧ S L ∧ ∀ l, S l → L ≤ l
theorem lst0_cong {S S' : Nat → Prop} {x : Int32} (h : lst0 S x) (e : ∀ l, S l ↔ S' l) : lst0 S' x := by
  have : S = S' := funext (fun l => propext (e l))
  rw [← this]; exact h
theorem lst0_eq (W : Wf n m a b) {x y : Int32} (h : lst0 (fun l => l ≤ n ∧ ocl n m a b l) x) (h' : lst0 (fun l => l ≤ 9 ∧ ocl n m a b l) y) : x = y := by
  have hn := W.2.1
  rcases h with ⟨h1, h2⟩ | ⟨L, h0, h9, h1, h2, h3⟩
  · rcases h' with ⟨g1, g2⟩ | ⟨L', g0, g9, g1, g2, g3⟩
    · rw [h1, g1]
    · obtain ⟨l', e1, e2, e3⟩ := odd_short W _ _ (Nat.le_refl _) g2.2
      exact absurd ⟨e1, e3⟩ (h2 l')
  · rcases h' with ⟨g1, g2⟩ | ⟨L', g0, g9, g1, g2, g3⟩
    · exact absurd ⟨by omega, h2.2⟩ (g2 L)
    · obtain ⟨l', e1, e2, e3⟩ := odd_short W _ _ (Nat.le_refl _) g2.2
      have := h3 l' ⟨e1, e3⟩
      have := g3 L ⟨by omega, h2.2⟩
      rw [h1, g1, show L = L' by omega]
theorem nI_div2 {l : Nat} (h : l < 2 ^ 30) : nI l - nI l / (2 : Int32) * (2 : Int32) = nI (l % 2) := by
  have e : nI l / (2 : Int32) = nI (l / 2) := by
    apply Int32.toInt_inj.mp
    rw [Int32.toInt_div_of_ne_right _ _ (by decide), nI_toInt (show l < 2 ^ 31 by omega), nI_toInt (show l / 2 < 2 ^ 31 by omega)]
    show Int.tdiv (l : Int) 2 = _
    rw [Int.tdiv_eq_ediv_of_nonneg (by omega)]
    omega
  rw [e, show (2 : Int32) = nI 2 from rfl, z_mul, z_sub (by omega)]
  congr 1
  omega
theorem sc_oddRound (N : RN n m a b σ) (W : Wf n m a b) {Q : Int32 → Prop} (h : ∀ x, lst0 (fun l => l ≤ n ∧ ocl n m a b l) x → Q x) : f_X6_leastOddRound σ Q := by
  have hn := W.2.1
  unfold f_X6_leastOddRound
  refine lf_2_1 n (by omega) (fun k x => lst0 (fun l => l ≤ n ∧ l % 2 = 1 ∧ ∃ p, p < k ∧ wl n m a b p l p = true) x) (Nat.zero_le _) (Or.inl ⟨rfl, fun l ⟨_, _, p, hp, _⟩ => absurd hp (Nat.not_lt_zero _)⟩) ?_ ?_
  · rintro rec k x hk hx hrec
    rw [N.1]
    refine br_f (nI_ge hk (by omega)) ?_
    rintro _ rfl
    refine lf_3_2 (n + 1) (by omega) (fun t x y => 1 ≤ t ∧ y = mk (wl n m a b k (t - 1)) n ∧ lst0 (fun l => l ≤ n ∧ l % 2 = 1 ∧ ((∃ p, p < k ∧ wl n m a b p l p = true) ∨ (l < t ∧ wl n m a b k l k = true))) x) (k0 := 1) (by omega) ⟨Nat.le_refl _, mk_one hk (by omega), lst0_cong hx (fun l => ⟨fun ⟨h1, h2, h3⟩ => ⟨h1, h2, Or.inl h3⟩, fun ⟨h1, h2, h3⟩ => ⟨h1, h2, by
      rcases h3 with h3 | ⟨h3, _⟩
      · exact h3
      · omega⟩⟩)⟩ ?_ ?_
    · rintro rec8 t x _ ht ⟨ht1, rfl, hx⟩ hrec8
      refine br_f (nI_nlt (by omega) (by omega)) ?_
      refine sc_neighbours N W ?_
      have e : mk (nbS n m a b (wl n m a b k (t - 1))) n = mk (wl n m a b k t) n := by
        obtain ⟨s, rfl⟩ : ∃ s, t = s + 1 := ⟨t - 1, by omega⟩
        rfl
      rw [e, nI_div2 (by omega)]
      dsimp only [kk_j1, kk_j0]
      have no : (t % 2 = 1 → wl n m a b k t k = false) → rec8 x (mk (wl n m a b k t) n) (nI t + 1) := fun z => by
        refine hrec8 _ _ ⟨by omega, by rw [Nat.add_sub_cancel], lst0_cong hx (fun l => ⟨fun ⟨h1, h2, h3⟩ => ⟨h1, h2, ?_⟩, fun ⟨h1, h2, h3⟩ => ⟨h1, h2, ?_⟩⟩)⟩
        · rcases h3 with h3 | ⟨h3, h4⟩
          · exact Or.inl h3
          · exact Or.inr ⟨by omega, h4⟩
        · rcases h3 with h3 | ⟨h3, h4⟩
          · exact Or.inl h3
          · by_cases el : l = t
            · subst el
              rw [z h2] at h4; cases h4
            · exact Or.inr ⟨by omega, h4⟩
      by_cases od : t % 2 = 1
      · rw [od]
        refine jn_f rfl ?_
        constructor
        · intro z
          rw [z_bit0 _ (by omega), mk_bt _ _ (by omega)] at z
          exact br_t rfl (no (fun _ => by simpa [hk] using z))
        · intro z
          rw [z_bit0 _ (by omega), mk_bt _ _ (by omega)] at z
          have z : wl n m a b k t k = true := by simpa [hk] using z
          refine br_f (by decide) ?_
          have yes : (∀ l, (l ≤ n ∧ l % 2 = 1 ∧ ((∃ p, p < k ∧ wl n m a b p l p = true) ∨ (l < t ∧ wl n m a b k l k = true))) → t ≤ l) → rec8 (nI t) (mk (wl n m a b k t) n) (nI t + 1) := fun g => by
            refine hrec8 _ _ ⟨by omega, by rw [Nat.add_sub_cancel], Or.inr ⟨t, by omega, by omega, rfl, ⟨by omega, od, Or.inr ⟨by omega, z⟩⟩, fun l ⟨h1, h2, h3⟩ => ?_⟩⟩
            rcases h3 with h3 | ⟨h3, h4⟩
            · exact g l ⟨h1, h2, Or.inl h3⟩
            · by_cases el : l = t
              · omega
              · exact g l ⟨h1, h2, Or.inr ⟨by omega, h4⟩⟩
          rcases hx with ⟨rfl, hx⟩ | ⟨L, L1, L9, rfl, L2, L3⟩
          · exact br_t rfl (yes (fun l hl => absurd hl (hx l)))
          · refine br_f (fun z => by have := (nI_ne (j := 0) (by omega) (by omega)).mp z; omega) ?_
            rcases Nat.lt_or_ge t L with g | g
            · refine br_f (nI_ge g (by omega)) (yes (fun l hl => by have := L3 l hl; omega))
            · refine br_t (nI_le g (by omega)) ?_
              refine hrec8 _ _ ⟨by omega, by rw [Nat.add_sub_cancel], Or.inr ⟨L, L1, L9, rfl, ⟨L2.1, L2.2.1, ?_⟩, fun l ⟨h1, h2, h3⟩ => ?_⟩⟩
              · rcases L2.2.2 with y | ⟨y, y2⟩
                · exact Or.inl y
                · exact Or.inr ⟨by omega, y2⟩
              · rcases h3 with h3 | ⟨h3, h4⟩
                · exact L3 l ⟨h1, h2, Or.inl h3⟩
                · by_cases el : l = t
                  · omega
                  · exact L3 l ⟨h1, h2, Or.inr ⟨by omega, h4⟩⟩
      · refine jn_t (fun z => by have := (nI_ne (j := 1) (by omega) (by omega)).mp z; omega) (br_t rfl (no (fun z => absurd z od)))
    · rintro rec8 x _ ⟨ht1, rfl, hx⟩
      refine br_t (nI_lt (by omega) (by omega)) (hrec _ (lst0_cong hx (fun l => ⟨fun ⟨h1, h2, h3⟩ => ⟨h1, h2, ?_⟩, fun ⟨h1, h2, h3⟩ => ⟨h1, h2, ?_⟩⟩)))
      · rcases h3 with ⟨p, h3, h4⟩ | ⟨h3, h4⟩
        · exact ⟨p, by omega, h4⟩
        · exact ⟨k, by omega, h4⟩
      · obtain ⟨p, h3, h4⟩ := h3
        by_cases e : p = k
        · rw [e] at h4; exact Or.inr ⟨by omega, h4⟩
        · exact Or.inl ⟨p, by omega, h4⟩
  · rintro rec x hx
    rw [N.1]
    exact br_t (nI_le (Nat.le_refl _) (by omega)) (h x hx)
/-- the reference's row of distances -/
def SD (n m : Nat) (a b : Nat → Nat) (k : Nat) (f : Nat → Int32) (D : Nat → Nat) : Prop := ∀ i, i < 18 → f i = nI (D i) ∧ D i ≤ 99 ∧ (D i = 99 ∨ (wl n m a b k (D i) (i / 2) = true ∧ D i % 2 = i % 2))
theorem SD_rel {k : Nat} {f : Nat → Int32} {D : Nat → Nat} (h : SD n m a b k f D) {x y : Nat} (hx : x < 18) (hy : y < 18) (hn : x / 2 < n) (ha : adj m a b (x / 2) (y / 2) = true) (hp : (x + 1) % 2 = y % 2) (hl : D x + 1 < D y) : SD n m a b k (upd f y (nI (D x + 1))) (fun i => if i = y then D x + 1 else D i) := by
  intro i hi
  rw [upd_if]
  dsimp only
  by_cases e : i = y
  · subst e
    rw [if_pos rfl, if_pos rfl]
    have := (h i hi).2.1
    refine ⟨rfl, by omega, Or.inr ?_⟩
    rcases (h x hx).2.2 with g | ⟨g1, g2⟩
    · omega
    · exact ⟨wl_st hn g1 ha, by omega⟩
  · rw [if_neg e, if_neg e]
    exact h i hi
theorem sm_oddRound (M : RM n m a b c σ) (W : Wf n m a b) {Q : Int32 → kk_St → Prop} (h : ∀ x τ, lst0 (fun l => l ≤ 9 ∧ ocl n m a b l) x → frF [9] [] σ τ → Q x τ) : f_X11_oddRound σ Q := by
  have hn := W.2.1
  have hm := W.2.2.1
  unfold f_X11_oddRound
  refine lf_3_1 n (by omega) (fun k x τ => frF [9] [] σ τ ∧ ∃ L, L ≤ 19 ∧ x = nI L ∧ (L = 19 ∨ (L % 2 = 1 ∧ ∃ p, p < k ∧ wl n m a b p L p = true)) ∧ ∀ p l, p < k → l ≤ 18 → l % 2 = 1 → wl n m a b p l p = true → L ≤ l) (Nat.zero_le _) ⟨frF_rf, 19, Nat.le_refl _, rfl, Or.inl rfl, fun p _ hp => absurd hp (Nat.not_lt_zero _)⟩ ?_ ?_
  · rintro rec k _ τ hk ⟨Fk, L, L1, rfl, L2, L3⟩ hrec
    have Mk := RM_fr M Fk (by simp) (by simp)
    rw [Mk.1]
    refine br_f (nI_ge hk (by omega)) ?_
    refine lf_2_0 18 (by omega) (fun t ρ => frF [9] [] σ ρ ∧ ∀ i, i < t → ρ.1 9 i = nI (if i = 2 * k then 0 else 99)) (Nat.zero_le _) ⟨Fk, fun _ h => absurd h (Nat.not_lt_zero _)⟩ ?_ ?_
    · rintro rec10 t ρ ht ⟨Ft, i1⟩ hrec10
      refine br_f (nI_ge (a := t) (b := 18) ht (by omega)) ?_
      dsimp only [kk_j1]
      have go : ∀ v : Int32, v = nI (if t = 2 * k then 0 else 99) → (vp_in (nI t) 18 ∧ ∀ σ_39 : kk_St, σ_39 = kk_wr ρ 9 (Int32.toNatClampNeg (nI t)) v → rec10 (nI t + 1) σ_39) := by
        rintro _ rfl
        refine ⟨vp_lt (by omega) (by omega), ?_⟩
        rintro _ rfl
        refine hrec10 _ ⟨frF_tr Ft (frF_c (by simp) (by decide)), fun i hi => ?_⟩
        rw [nI_clamp (by omega), wr_at, upd_if]
        by_cases e : i = t
        · rw [if_pos e, e]
        · rw [if_neg e]; exact i1 i (by omega)
      rw [show (2 : Int32) = nI 2 from rfl, z_mul]
      refine ⟨fun z => go _ ?_, fun z => go _ ?_⟩
      · rw [if_neg (fun y => z (by rw [y]))]; rfl
      · rw [if_pos ((nI_ne (by omega) (by omega)).mp z)]; rfl
    rintro rec10 ρ0 ⟨F0, i0⟩
    refine br_t (nI_le (a := 18) (b := 18) (Nat.le_refl _) (by omega)) ?_
    refine lf_2_0 18 (by omega) (fun r ρ => frF [9] [] σ ρ ∧ ∃ D, SD n m a b k (ρ.1 9) D ∧ ∀ l q, l ≤ r → q < n → wl n m a b k l q = true → D (2 * q + l % 2) ≤ l) (Nat.zero_le _) ⟨F0, fun i => if i = 2 * k then 0 else 99, fun i hi => ?_, fun l q hl hq hw => ?_⟩ ?_ ?_
    · refine ⟨i0 i hi, ?_, ?_⟩
      · dsimp only; split <;> omega
      · dsimp only
        by_cases e : i = 2 * k
        · rw [if_pos e]
          refine Or.inr ⟨?_, by omega⟩
          rw [show i / 2 = k by omega]
          simp [wl]
        · rw [if_neg e]; exact Or.inl rfl
    · obtain rfl : l = 0 := by omega
      have : q = k := by simpa [wl] using hw
      dsimp only
      rw [if_pos (by omega)]; exact Nat.le_refl _
    · rintro rec13 r ρ1 hr ⟨F1, D0, S0, C0⟩ hrec13
      refine br_f (nI_ge (a := r) (b := 18) hr (by omega)) ?_
      refine lf_2_0 m (by omega) (fun j ρ => frF [9] [] σ ρ ∧ ∃ D, SD n m a b k (ρ.1 9) D ∧ (∀ i, D i ≤ D0 i) ∧ ∀ i o, i < j → o < 2 → D (2 * b i + (1 - o)) ≤ D0 (2 * a i + o) + 1 ∧ D (2 * a i + o) ≤ D0 (2 * b i + (1 - o)) + 1) (Nat.zero_le _) ⟨F1, D0, S0, fun _ => Nat.le_refl _, fun _ _ h => absurd h (Nat.not_lt_zero _)⟩ ?_ ?_
      · rintro rec20 j ρ2 hj ⟨F2, D2, S2, g1, g2⟩ hrec20
        have M2 := RM_fr M F2 (by simp) (by simp)
        have hw := W.2.2.2.1 j hj
        rw [M2.2.1]
        refine br_f (nI_ge hj (by omega)) ?_
        refine lf_2_0 2 (by omega) (fun s ρ => frF [9] [] σ ρ ∧ ∃ D, SD n m a b k (ρ.1 9) D ∧ (∀ i, D i ≤ D0 i) ∧ ∀ i o, (i < j ∨ (i = j ∧ o < s)) → o < 2 → D (2 * b i + (1 - o)) ≤ D0 (2 * a i + o) + 1 ∧ D (2 * a i + o) ≤ D0 (2 * b i + (1 - o)) + 1) (Nat.zero_le _) ⟨F2, D2, S2, g1, fun i o hi ho => g2 i o (by omega) ho⟩ ?_ ?_
        · rintro rec23 s ρ3 hs ⟨F3, D, S, k1, k2⟩ hrec23
          have M3 := RM_fr M F3 (by simp) (by simp)
          refine br_f (nI_ge (a := s) (b := 2) hs (by omega)) ⟨vp_lt (by omega) (by omega), ?_⟩
          rw [rd_nI (q := 1) (by omega), rd_nI (q := 2) (by omega), M3.2.2.1 j hj, M3.2.2.2.1 j hj, show (2 : Int32) = nI 2 from rfl, z_mul, z_mul, nI_add, nI_1, z_sub (by omega)]
          rintro _ rfl
          refine ⟨vp_lt (by omega) (by omega), ?_⟩
          rintro _ rfl
          have bx : 2 * a j + s < 18 := by omega
          have byy : 2 * b j + 1 - s < 18 := by omega
          have ey : 2 * b j + 1 - s = 2 * b j + (1 - s) := by omega
          refine ⟨vp_lt bx (by omega), vp_lt byy (by omega), ?_⟩
          rw [rd_nI (by omega), rd_nI (by omega)]
          dsimp only [kk_j1]
          obtain ⟨x1, x2⟩ := adj_of W hj
          have dx : (2 * a j + s) / 2 = a j := by omega
          have dy : (2 * b j + 1 - s) / 2 = b j := by omega
          have fin : ∀ ρ' D', frF [9] [] σ ρ' → SD n m a b k (ρ'.1 9) D' → (∀ i, D' i ≤ D i) → D' (2 * b j + 1 - s) ≤ D (2 * a j + s) + 1 → (vp_in (nI (2 * b j + 1 - s)) 18 ∧ vp_in (nI (2 * a j + s)) 18 ∧ ((kk_rd ρ' 9 (nI (2 * a j + s)) ≤ kk_rd ρ' 9 (nI (2 * b j + 1 - s)) + 1 → rec23 (nI s + 1) ρ') ∧ (¬ kk_rd ρ' 9 (nI (2 * a j + s)) ≤ kk_rd ρ' 9 (nI (2 * b j + 1 - s)) + 1 → (vp_in (nI (2 * b j + 1 - s)) 18 ∧ vp_in (nI (2 * a j + s)) 18 ∧ ∀ σ_30 : kk_St, σ_30 = kk_wr ρ' 9 (Int32.toNatClampNeg (nI (2 * a j + s))) (kk_rd ρ' 9 (nI (2 * b j + 1 - s)) + 1) → rec23 (nI s + 1) σ_30)))) := by
            intro ρ' D' F' S' l1 l2
            refine ⟨vp_lt byy (by omega), vp_lt bx (by omega), ?_⟩
            have sx := S' _ bx
            have sy := S' _ byy
            rw [rd_nI (by omega), rd_nI (by omega), sx.1, sy.1, nI_1]
            have done : ∀ ρ'' D'', frF [9] [] σ ρ'' → SD n m a b k (ρ''.1 9) D'' → (∀ i, D'' i ≤ D' i) → D'' (2 * a j + s) ≤ D' (2 * b j + 1 - s) + 1 → rec23 (nI s + 1) ρ'' := by
              intro ρ'' D'' F'' S'' u1 u2
              refine hrec23 _ ⟨F'', D'', S'', fun i => Nat.le_trans (u1 i) (Nat.le_trans (l1 i) (k1 i)), fun i o hi ho => ?_⟩
              by_cases e : i = j ∧ o = s
              · obtain ⟨rfl, rfl⟩ := e
                rw [← ey]
                have := u1 (2 * b i + 1 - o)
                have := l1 (2 * b i + 1 - o)
                have := k1 (2 * a i + o)
                have := k1 (2 * b i + 1 - o)
                exact ⟨by omega, by omega⟩
              · obtain ⟨v1, v2⟩ := k2 i o (by omega) ho
                have := u1 (2 * b i + (1 - o))
                have := l1 (2 * b i + (1 - o))
                have := u1 (2 * a i + o)
                have := l1 (2 * a i + o)
                exact ⟨by omega, by omega⟩
            rcases Nat.lt_or_ge (D' (2 * b j + 1 - s) + 1) (D' (2 * a j + s)) with g | g
            · refine br_f (nI_ge g (by omega)) ⟨vp_lt byy (by omega), vp_lt bx (by omega), ?_⟩
              rintro _ rfl
              refine done _ (fun i => if i = 2 * a j + s then D' (2 * b j + 1 - s) + 1 else D' i) (frF_tr F' (frF_c (by simp) (by decide))) ?_ (fun i => ?_) ?_
              · rw [nI_clamp (by omega), wr_at]
                exact SD_rel S' byy bx (by omega) (by rw [dx, dy]; exact x2) (by omega) g
              · by_cases e : i = 2 * a j + s
                · rw [if_pos e, e]; omega
                · rw [if_neg e]; exact Nat.le_refl _
              · rw [if_pos rfl]; exact Nat.le_refl _
            · exact br_t (nI_le g (by omega)) (done ρ' D' F' S' (fun _ => Nat.le_refl _) g)
          have sx := S _ bx
          have sy := S _ byy
          rw [sx.1, sy.1, nI_1]
          rcases Nat.lt_or_ge (D (2 * a j + s) + 1) (D (2 * b j + 1 - s)) with g | g
          · refine br_f (nI_ge g (by omega)) ⟨vp_lt bx (by omega), vp_lt byy (by omega), ?_⟩
            rintro _ rfl
            refine fin _ (fun i => if i = 2 * b j + 1 - s then D (2 * a j + s) + 1 else D i) (frF_tr F3 (frF_c (by simp) (by decide))) ?_ (fun i => ?_) ?_
            · rw [nI_clamp (by omega), wr_at]
              exact SD_rel S bx byy (by omega) (by rw [dx, dy]; exact x1) (by omega) g
            · by_cases e : i = 2 * b j + 1 - s
              · rw [if_pos e, e]; omega
              · rw [if_neg e]; exact Nat.le_refl _
            · rw [if_pos rfl]; exact Nat.le_refl _
          · exact br_t (nI_le g (by omega)) (fin ρ3 D F3 S (fun _ => Nat.le_refl _) g)
        · rintro rec23 ρ3 ⟨F3, D, S, k1, k2⟩
          refine br_t (nI_le (a := 2) (b := 2) (Nat.le_refl _) (by omega)) (hrec20 _ ⟨F3, D, S, k1, fun i o hi ho => k2 i o (by omega) ho⟩)
      · rintro rec20 ρ2 ⟨F2, D, S, g1, g2⟩
        have M2 := RM_fr M F2 (by simp) (by simp)
        rw [M2.2.1]
        refine br_t (nI_le (Nat.le_refl _) (by omega)) (hrec13 _ ⟨F2, D, S, fun l q hl hq hw => ?_⟩)
        rcases Nat.lt_or_ge l (r + 1) with e | e
        · exact Nat.le_trans (g1 _) (C0 l q (by omega) hq hw)
        · obtain rfl : l = r + 1 := by omega
          obtain ⟨p, p1, p2, p3⟩ := nbS_iff.mp hw
          have c0 := C0 r p (Nat.le_refl _) p1 p2
          obtain ⟨j, hj, hh⟩ := adj_ln p3
          rcases hh with ⟨e1, e2⟩ | ⟨e1, e2⟩
          · have := (g2 j (r % 2) hj (by omega)).1
            rw [e1, e2, show 1 - r % 2 = (r + 1) % 2 by omega] at this
            omega
          · have := (g2 j ((r + 1) % 2) hj (by omega)).2
            rw [e1, e2, show 1 - (r + 1) % 2 = r % 2 by omega] at this
            omega
    · rintro rec13 ρ1 ⟨F1, D, S, C⟩
      refine br_t (nI_le (a := 18) (b := 18) (Nat.le_refl _) (by omega)) ?_
      rw [show (2 : Int32) = nI 2 from rfl, z_mul, nI_1]
      refine ⟨vp_lt (by omega) (by omega), ?_⟩
      dsimp only [kk_j1]
      have s1 := S (2 * k + 1) (by omega)
      have cc : ∀ l, l ≤ 18 → l % 2 = 1 → wl n m a b k l k = true → D (2 * k + 1) ≤ l := fun l h1 h2 h3 => by
        have := C l k h1 hk h3
        rw [h2] at this
        exact this
      rw [rd_nI (by omega), s1.1]
      rcases Nat.lt_or_ge (D (2 * k + 1)) L with g | g
      · refine br_f (nI_ge g (by omega)) ⟨vp_lt (by omega) (by omega), ?_⟩
        rintro _ rfl
        refine hrec _ _ ⟨F1, D (2 * k + 1), by omega, rfl, ?_, fun p l hp h1 h2 h3 => ?_⟩
        · rcases s1.2.2 with y | ⟨y1, y2⟩
          · omega
          · rw [show (2 * k + 1) / 2 = k by omega] at y1
            exact Or.inr ⟨by omega, k, by omega, y1⟩
        · by_cases e : p = k
          · rw [e] at h3; exact cc l h1 h2 h3
          · have := L3 p l (by omega) h1 h2 h3; omega
      · refine br_t (nI_le g (by omega)) (hrec _ _ ⟨F1, L, L1, rfl, ?_, fun p l hp h1 h2 h3 => ?_⟩)
        · rcases L2 with y | ⟨y1, p, y2, y3⟩
          · exact Or.inl y
          · exact Or.inr ⟨y1, p, by omega, y3⟩
        · by_cases e : p = k
          · rw [e] at h3; have := cc l h1 h2 h3; omega
          · exact L3 p l (by omega) h1 h2 h3
  · rintro rec _ τ ⟨Fk, L, L1, rfl, L2, L3⟩
    have Mk := RM_fr M Fk (by simp) (by simp)
    rw [Mk.1]
    refine br_t (nI_le (Nat.le_refl _) (by omega)) ?_
    dsimp only [kk_j1]
    rcases Nat.lt_or_ge 9 L with g | g
    · refine br_f (nI_ge (b := L) (a := 9) g (by omega)) (h _ _ (Or.inl ⟨rfl, fun l ⟨h1, h2, p, h3, h4⟩ => ?_⟩) Fk)
      have := L3 p l h3 (by omega) h2 h4
      omega
    · refine br_t (nI_le (a := L) (b := 9) g (by omega)) (h _ _ (Or.inr ⟨L, ?_, g, rfl, ⟨g, ?_⟩, fun l ⟨h1, h2, p, h3, h4⟩ => L3 p l h3 (by omega) h2 h4⟩) Fk)
      · rcases L2 with y | ⟨y1, _⟩ <;> omega
      · rcases L2 with y | ⟨y1, y2⟩
        · omega
        · exact ⟨y1, y2⟩
end
theorem q_sides : pr_sides Rel := by
  rintro σ1 σ2 ⟨n, m, a, b, c, kp, ls, kf, gf, W, P, M, N, K, Z⟩ v1
  have hm := W.2.2.1
  have hn := W.2.1
  have same : ∀ τ L, frF L [] σ2 τ → (1 ∉ L ∧ 2 ∉ L ∧ 3 ∉ L) → (4 ∉ L ∧ 5 ∉ L ∧ 7 ∉ L) → Rel σ1 τ := fun τ L G h1 h2 => ⟨n, m, a, b, c, kp, ls, kf, gf, W, P, RM_fr M G h1 (by simp), N, K, Rest_fr Z (frL_rf (L := [])) G (by simp) h2 (by simp)⟩
  have mod : ∀ {Q : Int32 → kk_St → Prop}, (v1 = 0 → (∀ F τ, sdF n m a b F → frF [8] [] σ2 τ → Q 1 τ) ∧ ((¬ ∃ F, ppr m a b F) → ∀ τ, frF [8] [] σ2 τ → Q 0 τ)) → (v1 = 1 → (∀ F τ, sdF n m a b F → frF [8] [] σ2 τ → Q (mk F n) τ) ∧ ((¬ ∃ F, ppr m a b F) → ∀ τ, frF [8] [] σ2 τ → Q (-2) τ)) → (v1 = 2 → ∀ x τ, lst0 (fun l => l ≤ 9 ∧ ocl n m a b l) x → frF [9] [] σ2 τ → Q x τ) → (isIx v1 3 = false → Q (-1) σ2) → f_X11_sides v1 σ2 Q := by
    intro Q g0 g1 g2 g3
    unfold f_X11_sides
    refine sp_in ?_
    rw [show (2 : Int32) = nI 2 from rfl, isIx_in2 (by omega)]
    refine bI_nz (fun hv => ?_) (fun hv => g3 hv)
    obtain ⟨v, hv, rfl⟩ := isIx_ex hv
    constructor
    · intro z2
      refine sm_laysSides M W (fun F τ hF G hs => ?_) (fun hF τ G => ?_)
      · have Mτ := RM_fr M G (by simp) (by simp)
        constructor
        · intro z0
          have e : v = 1 := by
            have : v ≠ 0 := fun y => z0 (by rw [y]; rfl)
            have : v ≠ 2 := fun y => z2 (by rw [y])
            omega
          subst e
          refine jn_t (by decide) ?_
          refine lf_2_1 n (by omega) (fun k x => x = mk F k) (Nat.zero_le _) rfl ?_ ?_
          · rintro rec k _ hk rfl hrec
            rw [Mτ.1]
            refine br_f (nI_ge hk (by omega)) ⟨vp_lt (by omega) (by omega), ?_⟩
            rw [rd_nI (by omega), hs k hk]
            dsimp only [kk_j1]
            have pu := mk_push F (n := k) (by omega)
            cases y : F k with
            | true =>
              refine jn_f (by simp) ?_
              rintro _ rfl
              rw [y, if_pos rfl] at pu
              exact hrec _ pu
            | false =>
              rw [y] at pu
              exact jn_t (by simp) (hrec _ pu)
          · rintro rec _ rfl
            rw [Mτ.1]
            exact br_t (nI_le (Nat.le_refl _) (by omega)) ((g1 rfl).1 F τ hF G)
        · intro z0
          dsimp only [kk_j1]
          exact br_f (by decide) ((g0 z0).1 F τ hF G)
      · constructor
        · intro z0
          have e : v = 1 := by
            have : v ≠ 0 := fun y => z0 (by rw [y]; rfl)
            have : v ≠ 2 := fun y => z2 (by rw [y])
            omega
          subst e
          exact jn_f rfl ((g1 rfl).2 hF τ G)
        · intro z0
          dsimp only [kk_j1]
          exact br_t rfl ((g0 z0).2 hF τ G)
    · intro z2
      exact sm_oddRound M W (fun x τ hx G => g2 z2 x τ hx G)
  unfold f_X10_sides
  have ne3 : ∀ v, v < 3 → isIx (nI v) 3 = false → False := fun v hv h => by rw [isIx_lt (by omega) hv] at h; cases h
  have rng : (v1.toInt < 0 ∨ (3 : Int) ≤ v1.toInt) → isIx v1 3 = false := fun h => by
    cases z : isIx v1 3 with
    | false => rfl
    | true =>
      obtain ⟨v, hv, rfl⟩ := isIx_ex z
      rw [nI_toInt (show v < 2 ^ 31 by omega)] at h
      omega
  refine sc_onePart N W (fun F hF => ?_) (fun hF => ?_)
  · have nz : ¬ mk F n = 0 := fun z => by
      obtain ⟨p, p1, p2⟩ := hF.2 0 (by have := W.1; omega)
      rw [(mk_eq0 (by omega)).mp z p p2.1] at p1
      cases p1
    refine ⟨fun e => ?_, fun e => ?_, fun e => ?_, fun e => ?_⟩
    · subst e
      dsimp only [kk_j1]
      refine br_f nz (mod (fun _ => ⟨fun F' τ _ G => ⟨rfl, same τ _ G (by simp) (by simp)⟩, fun h => absurd ⟨F, hF.1⟩ h⟩) (fun z => absurd z (by decide)) (fun z => absurd z (by decide)) (fun z => (ne3 0 (by omega) z).elim))
    · subst e
      dsimp only [kk_j1]
      refine br_f nz (mod (fun z => absurd z (by decide)) (fun _ => ⟨fun F' τ hF' G => ⟨mk_cong (sdF_eq hF hF'), same τ _ G (by simp) (by simp)⟩, fun h => absurd ⟨F, hF.1⟩ h⟩) (fun z => absurd z (by decide)) (fun z => (ne3 1 (by omega) z).elim))
    · subst e
      refine sc_oddRound N W (fun x hx => mod (fun z => absurd z (by decide)) (fun z => absurd z (by decide)) (fun _ y τ hy G => ⟨lst0_eq W hx hy, same τ _ G (by simp) (by simp)⟩) (fun z => (ne3 2 (by omega) z).elim))
    · have e := rng e
      have nv : ∀ v, v < 3 → v1 ≠ nI v := fun v hv h => by rw [h] at e; exact ne3 v hv e
      exact mod (fun z => absurd z (nv 0 (by omega))) (fun z => absurd z (nv 1 (by omega))) (fun z => absurd z (nv 2 (by omega))) (fun _ => ⟨rfl, same σ2 [] frF_rf (by simp) (by simp)⟩)
  · refine ⟨fun e => ?_, fun e => ?_, fun e => ?_, fun e => ?_⟩
    · subst e
      dsimp only [kk_j1]
      refine br_t rfl (mod (fun _ => ⟨fun F' _ hF' _ => absurd ⟨F', hF'.1⟩ hF, fun _ τ G => ⟨rfl, same τ _ G (by simp) (by simp)⟩⟩) (fun z => absurd z (by decide)) (fun z => absurd z (by decide)) (fun z => (ne3 0 (by omega) z).elim))
    · subst e
      dsimp only [kk_j1]
      refine br_t rfl (mod (fun z => absurd z (by decide)) (fun _ => ⟨fun F' _ hF' _ => absurd ⟨F', hF'.1⟩ hF, fun _ τ G => ⟨rfl, same τ _ G (by simp) (by simp)⟩⟩) (fun z => absurd z (by decide)) (fun z => (ne3 1 (by omega) z).elim))
    · subst e
      refine sc_oddRound N W (fun x hx => mod (fun z => absurd z (by decide)) (fun z => absurd z (by decide)) (fun _ y τ hy G => ⟨lst0_eq W hx hy, same τ _ G (by simp) (by simp)⟩) (fun z => (ne3 2 (by omega) z).elim))
    · have e := rng e
      have nv : ∀ v, v < 3 → v1 ≠ nI v := fun v hv h => by rw [h] at e; exact ne3 v hv e
      exact mod (fun z => absurd z (nv 0 (by omega))) (fun z => absurd z (nv 1 (by omega))) (fun z => absurd z (nv 2 (by omega))) (fun _ => ⟨rfl, same σ2 [] frF_rf (by simp) (by simp)⟩)
