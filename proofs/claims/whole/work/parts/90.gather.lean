/-! sets of lines apart: gathered by the first side -/
section
variable (m : Nat) (a b : Nat → Nat)
def bs (B : Nat → Bool) (i : Nat) : Nat → Bool := fun l => B l || mts a b i l
def ads (G : Nat → Bool) (i : Nat) : Nat → Bool := fun l => G l || decide (l = i)
/-- how many sets of t lines among the last k, none of them shut -/
def Mc : Nat → (Nat → Bool) → Nat → Nat
  | 0, _, t => if t = 0 then 1 else 0
  | k + 1, B, 0 => Mc k B 0
  | k + 1, B, t + 1 => Mc k B (t + 1) + (if B (m - 1 - k) then 0 else Mc k (bs a b B (m - 1 - k)) t)
/-- which they are, beside those that are there -/
def Ec : Nat → (Nat → Bool) → (Nat → Bool) → Nat → Nat → Prop
  | 0, _, G, t, Y => t = 0 ∧ Y = mN G m
  | k + 1, B, G, 0, Y => Ec k B G 0 Y
  | k + 1, B, G, t + 1, Y => Ec k B G (t + 1) Y ∨ (B (m - 1 - k) = false ∧ Ec k (bs a b B (m - 1 - k)) (ads G (m - 1 - k)) t Y)
end
section
variable {n m : Nat} {a b : Nat → Nat}
theorem Mc_0 (B : Nat → Bool) : ∀ k, Mc m a b k B 0 = 1
  | 0 => rfl
  | k + 1 => Mc_0 B k
theorem Ec_0 (B G : Nat → Bool) (Y : Nat) : ∀ k, Ec m a b k B G 0 Y ↔ Y = mN G m
  | 0 => ⟨fun h => h.2, fun h => ⟨rfl, h⟩⟩
  | k + 1 => Ec_0 B G Y k
theorem Mc_le : ∀ k (B : Nat → Bool) t, Mc m a b k B t ≤ 2 ^ k
  | 0, _, t => by
    show (if t = 0 then 1 else 0) ≤ 1
    split <;> omega
  | k + 1, B, 0 => by
    have := Mc_le k B 0
    show Mc m a b k B 0 ≤ _
    rw [Nat.pow_succ]
    omega
  | k + 1, B, t + 1 => by
    have h1 := Mc_le k B (t + 1)
    have h2 := Mc_le k (bs a b B (m - 1 - k)) t
    show Mc m a b k B (t + 1) + _ ≤ _
    rw [Nat.pow_succ]
    split <;> omega
theorem Ec_lt : ∀ k (B G : Nat → Bool) t Y, Ec m a b k B G t Y → Y < 2 ^ m
  | 0, _, G, _, Y, h => by rw [h.2]; exact mN_lt G m
  | k + 1, B, G, 0, Y, h => Ec_lt k B G 0 Y h
  | k + 1, B, G, t + 1, Y, h => by
    rcases h with h | h
    · exact Ec_lt k B G (t + 1) Y h
    · exact Ec_lt k _ _ t Y h.2
/-- what is gathered so far: how many, which, the least -/
def StG (cnt : Nat → Nat) (V : Nat → Nat → Prop) (σ : kk_St) : Prop := ∀ z, z ≤ 4 → σ.1 23 z = nI (cnt z) ∧ (cnt z = 0 ↔ ∀ Y, ¬ V z Y) ∧ (0 < cnt z → ∃ X, σ.1 24 z = nI X ∧ V z X ∧ ∀ Y, V z Y → X ≤ Y)
theorem StG_cong {cnt cnt' : Nat → Nat} {V V' : Nat → Nat → Prop} {σ : kk_St} (h : StG cnt V σ) (hc : ∀ z, z ≤ 4 → cnt z = cnt' z) (hV : ∀ z Y, z ≤ 4 → (V z Y ↔ V' z Y)) : StG cnt' V' σ := by
  intro z hz
  obtain ⟨h1, h2, h3⟩ := h z hz
  rw [← hc z hz]
  refine ⟨h1, h2.trans ⟨fun g Y hY => g Y ((hV z Y hz).mpr hY), fun g Y hY => g Y ((hV z Y hz).mp hY)⟩, fun g => ?_⟩
  obtain ⟨X, x1, x2, x3⟩ := h3 g
  exact ⟨X, x1, (hV z X hz).mp x2, fun Y hY => x3 Y ((hV z Y hz).mpr hY)⟩
theorem sc_gather (W : Wf n m a b) : ∀ (F i : Nat) (B G : Nat → Bool) (s : Nat) (σ : kk_St) (cnt : Nat → Nat) (V : Nat → Nat → Prop) (Q : kk_St → Prop), RN n m a b σ → StG cnt V σ → s ≤ 4 → i ≤ m → 5 ≤ F + s → (∀ z, z ≤ 4 → s ≤ z → cnt z + Mc m a b (m - i) B (z - s) < 2 ^ 31) → (∀ z Y, z ≤ 4 → V z Y → Y < 2 ^ m) → (∀ τ, frL [23, 24] σ τ → StG (fun z => cnt z + (if s ≤ z then Mc m a b (m - i) B (z - s) else 0)) (fun z Y => V z Y ∨ (s ≤ z ∧ Ec m a b (m - i) B G (z - s) Y)) τ → Q τ) → f_X0_gather F (nI i) (mk B m) (mk G m) (nI s) σ Q
  | 0, i, B, G, s, σ, cnt, V, Q, N, H, hs, hi, hF, hb, hV, h => by omega
  | F + 1, i, B, G, s, σ, cnt, V, Q, N, H, hs, hi, hF, hb, hV, h => by
    have hm := W.2.2.1
    have p20 : 2 ^ m ≤ 2 ^ 20 := Nat.pow_le_pow_right (by omega) hm
    have gl : mN G m < 2 ^ m := mN_lt G m
    unfold f_X0_gather
    refine ⟨vp_lt (by omega) (by omega), ?_⟩
    obtain ⟨e1, e2, e3⟩ := H s hs
    have b1 := hb s hs (Nat.le_refl _)
    rw [Nat.sub_self, Mc_0] at b1
    have cs : Int32.toNatClampNeg (nI s) = s := nI_clamp (by omega)
    refine j1_split (fun τ => frL [24] σ τ ∧ (∃ X, τ.1 24 s = nI X ∧ (V s X ∨ X = mN G m) ∧ X ≤ mN G m ∧ ∀ Y, V s Y → X ≤ Y) ∧ ∀ z, z ≠ s → τ.1 24 z = σ.1 24 z) ?_ ?_
    · rintro τ ⟨fr, ⟨X, x1, x2, x3, x4⟩, oth⟩
      refine ⟨vp_lt (by omega) (by omega), vp_lt (by omega) (by omega), ?_⟩
      rintro _ rfl
      rw [cs]
      have fr1 : frL [23, 24] σ (kk_wr τ 23 s (kk_rd τ 23 (nI s) + 1)) := frL_tr (frL_mono fr (by simp)) (frL_wr (by simp))
      have H1 : StG (fun z => if z = s then cnt z + 1 else cnt z) (fun z Y => V z Y ∨ (z = s ∧ Y = mN G m)) (kk_wr τ 23 s (kk_rd τ 23 (nI s) + 1)) := by
        intro z hz
        dsimp only
        rw [wr_at, upd_if, wr_ne _ _ _ (show 24 ≠ 23 by decide)]
        by_cases e : z = s
        · subst e
          rw [if_pos rfl, if_pos rfl, rd_nI (by omega), fr.1 23 (by simp), e1, nI_1]
          refine ⟨rfl, ⟨fun y => by omega, fun y => absurd (Or.inr ⟨rfl, rfl⟩) (y (mN G m))⟩, fun _ => ⟨X, x1, ?_, fun Y hY => ?_⟩⟩
          · rcases x2 with y | y
            · exact Or.inl y
            · exact Or.inr ⟨rfl, y⟩
          · rcases hY with y | ⟨_, y⟩
            · exact x4 Y y
            · rw [y]; exact x3
        · rw [if_neg e, if_neg e, fr.1 23 (by simp), oth z e]
          obtain ⟨h1, h2, h3⟩ := H z hz
          refine ⟨h1, h2.trans ⟨fun g Y hY => ?_, fun g Y hY => g Y (Or.inl hY)⟩, fun g => ?_⟩
          · rcases hY with y | ⟨y, _⟩
            · exact g Y y
            · exact e y
          · obtain ⟨X', y1, y2, y3⟩ := h3 g
            refine ⟨X', y1, Or.inl y2, fun Y hY => ?_⟩
            rcases hY with y | ⟨y, _⟩
            · exact y3 Y y
            · exact absurd y e
      generalize kk_wr τ 23 s (kk_rd τ 23 (nI s) + 1) = τ1 at fr1 H1 ⊢
      rcases Nat.lt_or_ge s 4 with s4 | s4
      · refine br_t (nI_lt (a := s) (b := 4) s4 (by omega)) ?_
        refine lf_2_0 m (by omega) (fun l ρ => i ≤ l ∧ frL [23, 24] σ ρ ∧ ∃ c' V', StG c' V' ρ ∧ (∀ z, z ≤ 4 → s < z → c' z + Mc m a b (m - l) B (z - s) = cnt z + Mc m a b (m - i) B (z - s)) ∧ (∀ z, z ≤ s → c' z = if z = s then cnt z + 1 else cnt z) ∧ (∀ z Y, z ≤ 4 → s < z → ((V' z Y ∨ Ec m a b (m - l) B G (z - s) Y) ↔ (V z Y ∨ Ec m a b (m - i) B G (z - s) Y))) ∧ (∀ z Y, z ≤ s → (V' z Y ↔ (V z Y ∨ (z = s ∧ Y = mN G m)))) ∧ ∀ z Y, z ≤ 4 → V' z Y → Y < 2 ^ m) hi ⟨Nat.le_refl _, fr1, _, _, H1, fun z _ hz => by rw [if_neg (by omega)], fun z _ => rfl, fun z Y _ hz => ?_, fun z Y _ => Iff.rfl, fun z Y hz4 hY => ?_⟩ ?_ ?_
        · constructor
          · rintro ((y | ⟨y, _⟩) | y)
            · exact Or.inl y
            · omega
            · exact Or.inr y
          · rintro (y | y)
            · exact Or.inl (Or.inl y)
            · exact Or.inr y
        · rcases hY with y | ⟨_, y⟩
          · exact hV z Y hz4 y
          · rw [y]; exact gl
        · rintro rec l ρ hl ⟨il, fρ, c', V', Hρ, k1, k2, k3, k4, k5⟩ hrec
          have Nρ := RN_fr N fρ (by simp)
          rw [Nρ.2.1]
          refine br_f (nI_ge hl (by omega)) ?_
          dsimp only [kk_j1]
          obtain ⟨k, hk⟩ : ∃ k, m - l = k + 1 := ⟨m - l - 1, by omega⟩
          have hk1 : m - (l + 1) = k := by omega
          have hkl : m - 1 - k = l := by omega
          have dM : ∀ t, Mc m a b (k + 1) B (t + 1) = Mc m a b k B (t + 1) + (if B l then 0 else Mc m a b k (bs a b B l) t) := fun t => by
            show Mc m a b k B (t + 1) + (if B (m - 1 - k) then 0 else Mc m a b k (bs a b B (m - 1 - k)) t) = _
            rw [hkl]
          have dE : ∀ t Y, Ec m a b (k + 1) B G (t + 1) Y ↔ (Ec m a b k B G (t + 1) Y ∨ (B l = false ∧ Ec m a b k (bs a b B l) (ads G l) t Y)) := fun t Y => by
            show (Ec m a b k B G (t + 1) Y ∨ (B (m - 1 - k) = false ∧ Ec m a b k (bs a b B (m - 1 - k)) (ads G (m - 1 - k)) t Y)) ↔ _
            rw [hkl]
          rw [hk] at k1 k3
          rw [z_bit0 _ (by omega), mk_bt _ _ (by omega), decide_eq_true hl, Bool.true_and]
          cases zb : B l with
          | true =>
            refine jn_t (by decide) (hrec _ ⟨by omega, fρ, c', V', Hρ, fun z hz hz' => ?_, k2, fun z Y hz hz' => ?_, k4, k5⟩)
            · obtain ⟨t, ht⟩ : ∃ t, z - s = t + 1 := ⟨z - s - 1, by omega⟩
              have := k1 z hz hz'
              rw [ht, dM, zb, if_pos rfl] at this
              rw [hk1, ht]
              omega
            · obtain ⟨t, ht⟩ : ∃ t, z - s = t + 1 := ⟨z - s - 1, by omega⟩
              have := k3 z Y hz hz'
              rw [ht, dE, zb] at this
              rw [hk1, ht]
              refine Iff.trans ⟨fun y => ?_, fun y => ?_⟩ this
              · rcases y with y | y
                · exact Or.inl y
                · exact Or.inr (Or.inl y)
              · rcases y with y | y | ⟨y, _⟩
                · exact Or.inl y
                · exact Or.inr y
                · cases y
          | false =>
            refine jn_f rfl ⟨vp_lt (by omega) (by omega), ?_⟩
            have hrec2 := hrec
            rw [nI_1] at hrec2
            rw [rd_nI (by omega), Nρ.2.2.2.2.2.1 l hl, mk_or, mk_set hl (by omega), nI_1, nI_1]
            refine sc_gather W F (l + 1) (bs a b B l) (ads G l) (s + 1) ρ c' V' _ Nρ Hρ (by omega) (by omega) (by omega) (fun z hz hz' => ?_) (fun z Y hz hY => k5 z Y hz hY) (fun τ2 f2 H2 => hrec2 _ ⟨by omega, frL_tr fρ f2, _, _, H2, fun z hz hz' => ?_, fun z hz => ?_, fun z Y hz hz' => ?_, fun z Y hz => ?_, fun z Y hz hY => ?_⟩)
            · obtain ⟨t, ht⟩ : ∃ t, z - s = t + 1 := ⟨z - s - 1, by omega⟩
              have g1 := k1 z hz (by omega)
              have g2 := hb z hz (by omega)
              rw [ht, dM, zb] at g1
              rw [hk1, show z - (s + 1) = t by omega]
              rw [ht] at g2
              simp only [Bool.false_eq_true, if_false] at g1
              omega
            · obtain ⟨t, ht⟩ : ∃ t, z - s = t + 1 := ⟨z - s - 1, by omega⟩
              have g1 := k1 z hz hz'
              rw [ht, dM, zb] at g1
              simp only [Bool.false_eq_true, if_false] at g1
              rw [if_pos (by omega), hk1, show z - (s + 1) = t by omega, ht]
              omega
            · rw [if_neg (by omega)]
              exact k2 z hz
            · obtain ⟨t, ht⟩ : ∃ t, z - s = t + 1 := ⟨z - s - 1, by omega⟩
              have g1 := k3 z Y hz hz'
              rw [ht, dE, zb] at g1
              rw [hk1, show z - (s + 1) = t by omega, ht]
              refine Iff.trans ⟨fun y => ?_, fun y => ?_⟩ g1
              · rcases y with (y | ⟨_, y⟩) | y
                · exact Or.inl y
                · exact Or.inr (Or.inr ⟨rfl, y⟩)
                · exact Or.inr (Or.inl y)
              · rcases y with y | y | ⟨_, y⟩
                · exact Or.inl (Or.inl y)
                · exact Or.inr y
                · exact Or.inl (Or.inr ⟨by omega, y⟩)
            · refine Iff.trans ⟨fun y => ?_, fun y => Or.inl y⟩ (k4 z Y hz)
              rcases y with y | ⟨y, _⟩
              · exact y
              · omega
            · rcases hY with y | ⟨_, y⟩
              · exact k5 z Y hz y
              · exact Ec_lt _ _ _ _ _ y
        · rintro rec ρ ⟨il, fρ, c', V', Hρ, k1, k2, k3, k4, k5⟩
          have Nρ := RN_fr N fρ (by simp)
          rw [Nρ.2.1]
          refine br_t (nI_le (Nat.le_refl _) (by omega)) (h _ fρ (StG_cong Hρ (fun z hz => ?_) (fun z Y hz => ?_)))
          · rcases Nat.lt_trichotomy z s with e | e | e
            · rw [if_neg (by omega), k2 z (by omega), if_neg (by omega)]; rfl
            · rw [if_pos (by omega), k2 z (by omega), if_pos e, e, Nat.sub_self, Mc_0]
            · obtain ⟨t, ht⟩ : ∃ t, z - s = t + 1 := ⟨z - s - 1, by omega⟩
              have := k1 z hz e
              rw [Nat.sub_self, ht] at this
              rw [if_pos (by omega), ht, ← this]
              rfl
          · rcases Nat.lt_trichotomy z s with e | e | e
            · refine (k4 z Y (by omega)).trans ⟨fun y => ?_, fun y => ?_⟩
              · rcases y with y | ⟨y, _⟩
                · exact Or.inl y
                · omega
              · rcases y with y | ⟨y, _⟩
                · exact Or.inl y
                · omega
            · refine (k4 z Y (by omega)).trans ⟨fun y => ?_, fun y => ?_⟩
              · rcases y with y | ⟨y1, y⟩
                · exact Or.inl y
                · refine Or.inr ⟨by omega, ?_⟩
                  rw [e, Nat.sub_self, Ec_0]; exact y
              · rcases y with y | ⟨y1, y⟩
                · exact Or.inl y
                · rw [e, Nat.sub_self, Ec_0] at y
                  exact Or.inr ⟨e, y⟩
            · obtain ⟨t, ht⟩ : ∃ t, z - s = t + 1 := ⟨z - s - 1, by omega⟩
              have := k3 z Y hz e
              rw [Nat.sub_self, ht] at this
              rw [ht]
              refine Iff.trans ⟨fun y => ?_, fun y => ?_⟩ (this.trans ⟨fun y => ?_, fun y => ?_⟩)
              · exact Or.inl y
              · rcases y with y | ⟨y, _⟩
                · exact y
                · omega
              · rcases y with y | y
                · exact Or.inl y
                · exact Or.inr ⟨by omega, y⟩
              · rcases y with y | ⟨_, y⟩
                · exact Or.inl y
                · exact Or.inr y
      · refine br_f (nI_nlt (a := s) (b := 4) s4 (by omega)) (h _ fr1 (StG_cong H1 (fun z hz => ?_) (fun z Y hz => ?_)))
        · by_cases e : z = s
          · rw [if_pos e, if_pos (by omega), e, Nat.sub_self, Mc_0]
          · rw [if_neg e, if_neg (by omega)]; rfl
        · constructor
          · rintro (y | ⟨y1, y2⟩)
            · exact Or.inl y
            · refine Or.inr ⟨by omega, ?_⟩
              rw [y1, Nat.sub_self, Ec_0]; exact y2
          · rintro (y | ⟨y1, y2⟩)
            · exact Or.inl y
            · have e : z = s := by omega
              rw [e, Nat.sub_self, Ec_0] at y2
              exact Or.inr ⟨e, y2⟩
    · intro X hX
      dsimp only [kk_j0]
      rw [rd_nI (by omega), e1]
      have wr : (∀ Y, V s Y → mN G m ≤ Y) → (vp_in (nI s) 5 ∧ ∀ σ_14 : kk_St, σ_14 = kk_wr σ 24 (Int32.toNatClampNeg (nI s)) (mk G m) → X σ_14) := by
        refine fun mn => ⟨vp_lt (by omega) (by omega), ?_⟩
        rintro _ rfl
        rw [cs]
        exact hX _ ⟨frL_wr (by simp), ⟨mN G m, by rw [wr_at, upd_at]; rfl, Or.inr rfl, Nat.le_refl _, mn⟩, fun z hz => by rw [wr_at, upd_ne _ _ hz]⟩
      refine ⟨fun z => wr (fun Y hY => absurd hY (e2.mp ((nI_ne (j := 0) (by omega) (by omega)).mp z) Y)), fun z => ⟨vp_lt (by omega) (by omega), ?_⟩⟩
      have pos : 0 < cnt s := Nat.pos_of_ne_zero (fun y => z (by rw [y]; rfl))
      obtain ⟨X0, x1, x2, x3⟩ := e3 pos
      have x20 := hV s X0 hs x2
      rw [rd_nI (by omega), x1]
      show (nI X0 ≤ nI (mN G m) → _) ∧ (¬ nI X0 ≤ nI (mN G m) → _)
      rcases Nat.lt_or_ge (mN G m) X0 with g | g
      · refine br_f (nI_ge g (by omega)) (wr (fun Y hY => ?_))
        have := x3 Y hY
        omega
      · exact br_t (nI_le g (by omega)) (hX σ ⟨frL_rf, ⟨X0, x1, Or.inl x2, g, x3⟩, fun _ _ => rfl⟩)
end
