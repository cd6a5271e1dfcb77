/-! sides: the reference -/
section
variable {n m : Nat} {a b : Nat → Nat} {σ : kk_St} {c : Nat → Int32}
/-- a post's side is sound -/
def sOk (n m : Nat) (a b : Nat → Nat) (s : Nat → Int32) (q : Nat) : Prop := s q = -1 ∨ ((s q = 0 ∨ s q = 1) ∧ ∃ p, lsr n m a b p q ∧ s p = 0 ∧ ∀ F, ppr m a b F → (s q = 0 ↔ F q = F p))
theorem sOk_upd {s : Nat → Int32} (H : ∀ q, q < n → sOk n m a b s q) {x y : Nat} (hx : x < n) (hy : y < n) (ha : adj m a b y x = true) (h1 : s x = -1) (h2 : s y ≠ -1) : ∀ q, q < n → sOk n m a b (upd s x (1 - s y)) q := by
  intro q hq
  have old : ∀ p, s p ≠ -1 → upd s x (1 - s y) p = s p := fun p hp => upd_ne _ _ (fun z => hp (by rw [z]; exact h1))
  by_cases e : q = x
  · subst e
    rcases H y hy with z | ⟨z, p, p1, p2, p3⟩
    · exact absurd z h2
    · refine Or.inr ⟨?_, p, lsr_st p1 (adj_cn ha), ?_, fun F hF => ?_⟩
      · rw [upd_at]
        rcases z with z | z
        · rw [z]; exact Or.inr rfl
        · rw [z]; exact Or.inl rfl
      · rw [old p (by rw [p2]; decide)]; exact p2
      · rw [upd_at]
        have g := p3 F hF
        have f := adj_F hF ha
        rcases z with z | z
        · rw [z] at g ⊢
          have g := g.mp rfl
          refine ⟨fun h => absurd h (by decide), fun h => absurd (g.trans h.symm) f⟩
        · rw [z] at g ⊢
          have g : ¬ F y = F p := fun h => absurd (g.mpr h) (by decide)
          refine ⟨fun _ => ?_, fun _ => by decide⟩
          cases u : F q <;> cases v : F y <;> cases w : F p <;> simp_all
  · rcases H q hq with z | ⟨z, p, p1, p2, p3⟩
    · exact Or.inl (by rw [upd_ne _ _ e]; exact z)
    · refine Or.inr ?_
      rw [upd_ne _ _ e]
      exact ⟨z, p, p1, (old p (by rw [p2]; decide)).trans p2, p3⟩
def uns (n : Nat) (s : Nat → Int32) : Nat := fb_ct (fun q => decide (s q = -1)) n
theorem uns_upd {s : Nat → Int32} {x : Nat} {v : Int32} (hx : x < n) (h1 : s x = -1) (hv : v ≠ -1) : uns n (upd s x v) < uns n s := by
  refine ct_strict (x := x) (fun k _ h => ?_) hx ?_ ?_
  · have h : upd s x v k = -1 := of_decide_eq_true h
    rw [upd_if] at h
    by_cases e : k = x
    · rw [e]; exact decide_eq_true h1
    · rw [if_neg e] at h; exact decide_eq_true h
  · rw [upd_at]; exact decide_eq_false hv
  · exact decide_eq_true h1
theorem sm_laysSides (M : RM n m a b c σ) (W : Wf n m a b) {Q : Int32 → kk_St → Prop} (h1 : ∀ F τ, sdF n m a b F → frF [8] [] σ τ → (∀ p, p < n → τ.1 8 p = if F p then 0 else 1) → Q 1 τ) (h0 : (¬ ∃ F, ppr m a b F) → ∀ τ, frF [8] [] σ τ → Q 0 τ) : f_X11_laysSides σ Q := by
  have hn := W.2.1
  have hm := W.2.2.1
  have H := fun l (hl : l < m) => W.2.2.2.1 l hl
  unfold f_X11_laysSides
  refine lf_2_0 n (by omega) (fun k τ => frF [8] [] σ τ ∧ ∀ j, j < k → τ.1 8 j = -1) (Nat.zero_le _) ⟨frF_rf, fun _ h => absurd h (Nat.not_lt_zero _)⟩ ?_ ?_
  · rintro rec k τ hk ⟨F, i1⟩ hrec
    have Mk := RM_fr M F (by simp) (by simp)
    rw [Mk.1]
    refine br_f (nI_ge hk (by omega)) ⟨vp_lt (by omega) (by omega), ?_⟩
    rintro _ rfl
    refine hrec _ ⟨frF_tr F (frF_c (by simp) (by decide)), fun j hj => ?_⟩
    rw [nI_clamp (by omega), wr_at, upd_if]
    by_cases e : j = k
    · rw [if_pos e]
    · rw [if_neg e]; exact i1 j (by omega)
  rintro rec τ0 ⟨F0, i0⟩
  have M0 := RM_fr M F0 (by simp) (by simp)
  rw [M0.1]
  refine br_t (nI_le (Nat.le_refl _) (by omega)) ?_
  refine lf_2_0 n (by omega) (fun k τ => frF [8] [] σ τ ∧ (∀ q, q < n → sOk n m a b (τ.1 8) q) ∧ (∀ l, l < m → (τ.1 8 (a l) = -1 ↔ τ.1 8 (b l) = -1)) ∧ ∀ j, j < k → τ.1 8 j ≠ -1) (Nat.zero_le _) ⟨F0, fun q hq => Or.inl (i0 q hq), fun l hl => by
    have := H l hl
    rw [i0 _ (show a l < n by omega), i0 _ this.2], fun _ h => absurd h (Nat.not_lt_zero _)⟩ ?_ ?_
  · rintro rec k τ hk ⟨F, i1, i2, i3⟩ hrec
    have Mk := RM_fr M F (by simp) (by simp)
    rw [Mk.1]
    refine br_f (nI_ge hk (by omega)) ⟨vp_lt (by omega) (by omega), ?_⟩
    dsimp only [kk_j1]
    rw [rd_nI (by omega)]
    constructor
    · intro z
      refine ⟨vp_lt (by omega) (by omega), ?_⟩
      rintro _ rfl
      have s0 : (kk_wr τ 8 (Int32.toNatClampNeg (nI k)) 0).1 8 = upd (τ.1 8) k 0 := by rw [nI_clamp (by omega), wr_at]
      have lk : lsr n m a b k k := ⟨hk, cn_rf k, fun r hr hc => by
        rcases Nat.lt_or_ge r k with g | g
        · exfalso
          have := i3 r g
          exact this ((cn_sy hc) (fun x => τ.1 8 x = -1) z i2)
        · exact g⟩
      have b1 : ∀ q, q < n → sOk n m a b (upd (τ.1 8) k 0) q := by
        intro q hq
        by_cases e : q = k
        · subst e
          exact Or.inr ⟨Or.inl (upd_at _ _ _), q, lk, upd_at _ _ _, fun F _ => by rw [upd_at]; exact ⟨fun _ => rfl, fun _ => rfl⟩⟩
        · rcases i1 q hq with y | ⟨y, p, p1, p2, p3⟩
          · exact Or.inl (by rw [upd_ne _ _ e]; exact y)
          · refine Or.inr ?_
            have e2 : p ≠ k := fun y => by rw [y, z] at p2; exact absurd p2 (by decide)
            rw [upd_ne _ _ e]
            exact ⟨y, p, p1, (upd_ne _ _ e2).trans p2, p3⟩
      have b3 : ∀ j, j < k + 1 → upd (τ.1 8) k 0 j ≠ -1 := by
        intro j hj
        rw [upd_if]
        by_cases e : j = k
        · rw [if_pos e]; decide
        · rw [if_neg e]; exact i3 j (by omega)
      refine kk_lpI2 (fun v ρ => frF [8] [] σ ρ ∧ (∀ q, q < n → sOk n m a b (ρ.1 8) q) ∧ (∀ j, j < k + 1 → ρ.1 8 j ≠ -1) ∧ (v = 0 → ∀ l, l < m → (ρ.1 8 (a l) = -1 ↔ ρ.1 8 (b l) = -1)) ∧ (v = 0 ∨ v = 1)) (fun v ρ => 2 * uns n (ρ.1 8) + (if v = 0 then 0 else 1)) ?_ ⟨frF_tr F (frF_c (by simp) (by decide)), by rw [s0]; exact b1, by rw [s0]; exact b3, fun h => absurd h (by decide), Or.inr rfl⟩
      rintro rec16 v ρ ⟨Fρ, j1, j2, j3, j4⟩ hrec16
      constructor
      · intro v0
        exact hrec _ ⟨Fρ, j1, j3 v0, j2⟩
      · intro v0
        refine lf_3_1 m (by omega) (fun l x θ => frF [8] [] σ θ ∧ (∀ q, q < n → sOk n m a b (θ.1 8) q) ∧ (∀ j, j < k + 1 → θ.1 8 j ≠ -1) ∧ ((x = 0 ∧ θ.1 8 = ρ.1 8 ∧ ∀ i, i < l → (ρ.1 8 (a i) = -1 ↔ ρ.1 8 (b i) = -1)) ∨ (x = 1 ∧ uns n (θ.1 8) < uns n (ρ.1 8)))) (Nat.zero_le _) ⟨Fρ, j1, j2, Or.inl ⟨rfl, rfl, fun _ h => absurd h (Nat.not_lt_zero _)⟩⟩ ?_ ?_
        · rintro rec20 l x θ hl ⟨Fθ, t1, t2, t3⟩ hrec20
          have Mθ := RM_fr M Fθ (by simp) (by simp)
          have hw := H l hl
          rw [Mθ.2.1]
          refine br_f (nI_ge hl (by omega)) ⟨vp_lt (by omega) (by omega), vp_lt (by omega) (by omega), ?_⟩
          rw [rd_nI (q := 1) (by omega), rd_nI (q := 2) (by omega), Mθ.2.2.1 l hl, Mθ.2.2.2.1 l hl, rd_nI (by omega), rd_nI (by omega)]
          dsimp only [kk_j1, kk_j2]
          have va : vp_in (nI (a l)) 9 := vp_lt (by omega) (by omega)
          have vb : vp_in (nI (b l)) 9 := vp_lt (by omega) (by omega)
          have un1 : ∀ z : (x = 0 ∧ θ.1 8 = ρ.1 8 ∧ ∀ i, i < l → (ρ.1 8 (a i) = -1 ↔ ρ.1 8 (b i) = -1)) ∨ (x = 1 ∧ uns n (θ.1 8) < uns n (ρ.1 8)), uns n (θ.1 8) ≤ uns n (ρ.1 8) := fun z => by
            rcases z with ⟨_, z, _⟩ | ⟨_, z⟩
            · rw [z]; exact Nat.le_refl _
            · exact Nat.le_of_lt z
          have un2 := un1 t3
          have keep : (θ.1 8 (a l) = -1 ↔ θ.1 8 (b l) = -1) → rec20 x (nI l + 1) θ := fun e => by
            refine hrec20 _ _ ⟨Fθ, t1, t2, ?_⟩
            rcases t3 with ⟨u1, u2, u3⟩ | u
            · refine Or.inl ⟨u1, u2, fun i hi => ?_⟩
              by_cases ei : i = l
              · rw [ei, ← u2]; exact e
              · exact u3 i (by omega)
            · exact Or.inr u
          have one : ∀ s y w, y < n → w < n → adj m a b y w = true → θ.1 8 w = -1 → θ.1 8 y ≠ -1 → s = (1 : Int32) - θ.1 8 y → rec20 1 (nI l + 1) (kk_wr θ 8 (Int32.toNatClampNeg (nI w)) s) := by
            rintro s y w hy hw' ha z1 z2 rfl
            have sv : (1 : Int32) - θ.1 8 y ≠ -1 := by
              rcases t1 y hy with z | ⟨z, _⟩
              · exact absurd z z2
              · rcases z with z | z <;> rw [z] <;> decide
            have e8 : (kk_wr θ 8 (Int32.toNatClampNeg (nI w)) ((1 : Int32) - θ.1 8 y)).1 8 = upd (θ.1 8) w (1 - θ.1 8 y) := by rw [nI_clamp (by omega), wr_at]
            refine hrec20 _ _ ⟨frF_tr Fθ (frF_c (by simp) (by decide)), ?_, ?_, Or.inr ⟨rfl, ?_⟩⟩
            · rw [e8]; exact sOk_upd t1 hw' hy ha z1 z2
            · intro j hj
              rw [e8, upd_if]
              by_cases e : j = w
              · rw [if_pos e]; exact sv
              · rw [if_neg e]; exact t2 j hj
            · rw [e8]
              exact Nat.lt_of_lt_of_le (uns_upd hw' z1 sv) un2
          obtain ⟨x1, x2⟩ := adj_of W hl
          refine ⟨va, ?_⟩
          by_cases za : θ.1 8 (a l) = -1
          · refine jn_f za ⟨vb, ?_⟩
            by_cases zb : θ.1 8 (b l) = -1
            · refine jn_f zb (jn_f rfl (keep ⟨fun _ => zb, fun _ => za⟩))
            · refine jn_t zb (jn_t (by decide) ⟨va, jn_f za ⟨vb, va, ?_⟩⟩)
              rintro _ rfl
              exact one _ (b l) (a l) hw.2 (by omega) x2 za zb rfl
          · refine jn_t za ⟨vb, ?_⟩
            by_cases zb : θ.1 8 (b l) = -1
            · refine jn_f zb (jn_t (by decide) ⟨va, jn_t za ⟨va, vb, ?_⟩⟩)
              rintro _ rfl
              exact one _ (a l) (b l) (by omega) hw.2 x1 zb za rfl
            · refine jn_t zb (jn_f rfl (keep ⟨fun z => absurd z za, fun z => absurd z zb⟩))
        · rintro rec20 x θ ⟨Fθ, t1, t2, t3⟩
          have Mθ := RM_fr M Fθ (by simp) (by simp)
          rw [Mθ.2.1]
          refine br_t (nI_le (Nat.le_refl _) (by omega)) ?_
          have v1 : v = 1 := by
            rcases j4 with z | z
            · exact absurd z v0
            · exact z
          refine hrec16 _ _ ⟨Fθ, t1, t2, fun x0 => ?_, ?_⟩ ?_
          · rcases t3 with ⟨_, u2, u3⟩ | ⟨u1, _⟩
            · rw [u2]; exact u3
            · rw [u1] at x0; exact absurd x0 (by decide)
          · rcases t3 with ⟨u1, _, _⟩ | ⟨u1, _⟩
            · exact Or.inl u1
            · exact Or.inr u1
          · rw [if_neg v0]
            rcases t3 with ⟨u1, u2, u3⟩ | ⟨u1, u2⟩
            · rw [if_pos u1, u2]; omega
            · rw [if_neg (by rw [u1]; decide)]; omega
    · intro z
      refine hrec _ ⟨F, i1, i2, fun j hj => ?_⟩
      by_cases e : j = k
      · rw [e]; exact z
      · exact i3 j (by omega)
  · rintro rec τ ⟨F, i1, i2, i3⟩
    have Mk := RM_fr M F (by simp) (by simp)
    rw [Mk.1]
    refine br_t (nI_le (Nat.le_refl _) (by omega)) ?_
    have val : ∀ q, q < n → (τ.1 8 q = 0 ∨ τ.1 8 q = 1) ∧ ∃ p, lsr n m a b p q ∧ τ.1 8 p = 0 ∧ ∀ F, ppr m a b F → (τ.1 8 q = 0 ↔ F q = F p) := fun q hq => by
      rcases i1 q hq with z | z
      · exact absurd z (i3 q hq)
      · exact z
    refine lf_1_0 m (by omega) (fun l => ∀ i, i < l → τ.1 8 (a i) ≠ τ.1 8 (b i)) (Nat.zero_le _) (fun _ h => absurd h (Nat.not_lt_zero _)) ?_ ?_
    · intro rec8 l hl j1 hrec8
      have hw := H l hl
      rw [Mk.2.1]
      refine br_f (nI_ge hl (by omega)) ⟨vp_lt (by omega) (by omega), ?_⟩
      rw [rd_nI (q := 1) (by omega), rd_nI (q := 2) (by omega), Mk.2.2.1 l hl, Mk.2.2.2.1 l hl, rd_nI (by omega), rd_nI (by omega)]
      refine ⟨vp_lt (by omega) (by omega), vp_lt (by omega) (by omega), vp_lt (by omega) (by omega), fun z => hrec8 (fun i hi => ?_), fun z => h0 (fun ⟨G, hG⟩ => ?_) τ F⟩
      · by_cases e : i = l
        · rw [e]; exact z
        · exact j1 i (by omega)
      · obtain ⟨_, p, p1, p2, p3⟩ := val (a l) (by omega)
        obtain ⟨_, p', p1', p2', p3'⟩ := val (b l) hw.2
        have e := lsr_eq p1 p1' (adj_cn (adj_of W hl).1)
        subst e
        have g := p3 G hG
        have g' := p3' G hG
        rw [← z] at g'
        have := hG l hl
        have gg := g.symm.trans g'
        cases u : G (a l) <;> cases v : G (b l) <;> cases w : G p <;> simp_all
    · intro rec8 j1
      rw [Mk.2.1]
      refine br_t (nI_le (Nat.le_refl _) (by omega)) (h1 (fun q => decide (τ.1 8 q = 0)) τ ⟨fun l hl => ?_, fun q hq => ?_⟩ F (fun p hp => ?_))
      · have hw := H l hl
        have := j1 l hl
        obtain ⟨u, _⟩ := val (a l) (by omega)
        obtain ⟨v, _⟩ := val (b l) hw.2
        dsimp only
        rcases u with u | u <;> rcases v with v | v <;> rw [u, v] at this ⊢
        · exact absurd rfl this
        · decide
        · decide
        · exact absurd rfl this
      · obtain ⟨_, p, p1, p2, _⟩ := val q hq
        exact ⟨p, decide_eq_true p2, p1⟩
      · obtain ⟨u, _⟩ := val p hp
        rcases u with u | u <;> rw [u] <;> simp
end
