/-! chains: what one comes to from a start along lines of a pool that meet -/
def Rch (m : Nat) (a b : Nat → Nat) (P s : Nat → Bool) (k : Nat) : Prop := ∀ T : Nat → Prop, (∀ k, k < m → P k = true → s k = true → T k) → (∀ k j, k < m → j < m → P j = true → T k → mts a b k j = true → T j) → T k
noncomputable def rch (m : Nat) (a b : Nat → Nat) (P s : Nat → Bool) (k : Nat) : Bool := @decide (k < m ∧ Rch m a b P s k) (Classical.propDecidable _)
theorem rch_iff {m : Nat} {a b : Nat → Nat} {P s : Nat → Bool} {k : Nat} : rch m a b P s k = true ↔ k < m ∧ Rch m a b P s k := by
  unfold rch
  exact @decide_eq_true_iff _ (Classical.propDecidable _)
theorem rch_start {m : Nat} {a b : Nat → Nat} {P s : Nat → Bool} {k : Nat} (hk : k < m) (hp : P k = true) (hs : s k = true) : rch m a b P s k = true := rch_iff.mpr ⟨hk, fun _ h1 _ => h1 k hk hp hs⟩
theorem rch_step {m : Nat} {a b : Nat → Nat} {P s : Nat → Bool} {k j : Nat} (h : rch m a b P s k = true) (hj : j < m) (hp : P j = true) (hm : mts a b k j = true) : rch m a b P s j = true :=
  rch_iff.mpr ⟨hj, fun T h1 h2 => h2 k j (rch_iff.mp h).1 hj hp ((rch_iff.mp h).2 T h1 h2) hm⟩
theorem rch_ind {m : Nat} {a b : Nat → Nat} {P s : Nat → Bool} {k : Nat} (h : rch m a b P s k = true) (T : Nat → Prop) (h1 : ∀ k, k < m → P k = true → s k = true → T k) (h2 : ∀ k j, k < m → j < m → P j = true → T k → mts a b k j = true → T j) : T k := (rch_iff.mp h).2 T h1 h2
theorem rch_pool {m : Nat} {a b : Nat → Nat} {P s : Nat → Bool} {k : Nat} (h : rch m a b P s k = true) : P k = true := rch_ind h (fun k => P k = true) (fun _ _ hp _ => hp) (fun _ _ _ _ hp _ _ => hp)
theorem rch_lt {m : Nat} {a b : Nat → Nat} {P s : Nat → Bool} {k : Nat} (h : rch m a b P s k = true) : k < m := (rch_iff.mp h).1
/-- a set that holds the start, lies in what is reached, and is closed, is what is reached -/
theorem rch_eq {m : Nat} {a b : Nat → Nat} {P s G : Nat → Bool} (h1 : ∀ k, k < m → P k = true → s k = true → G k = true) (h2 : ∀ k j, k < m → j < m → P j = true → G k = true → mts a b k j = true → G j = true) (h3 : ∀ k, k < m → G k = true → rch m a b P s k = true) : ∀ k, k < m → G k = rch m a b P s k := by
  intro k hk
  cases h : rch m a b P s k with
  | true => exact rch_ind h (fun k => G k = true) h1 h2
  | false =>
    cases hg : G k with
    | false => rfl
    | true => rw [h3 k hk hg] at h; cases h
theorem rch_cong {m : Nat} {a b : Nat → Nat} {P s P' s' : Nat → Bool} (hP : ∀ k, k < m → P k = P' k) (hs : ∀ k, k < m → P k = true → s k = s' k) : ∀ k, k < m → rch m a b P s k = rch m a b P' s' k := by
  refine fun k hk => rch_eq (G := rch m a b P s) (fun k hk hp hs' => ?_) (fun k j hk hj hp hg hm => ?_) (fun k hk hg => ?_) k hk
  · exact rch_start hk (by rw [hP k hk]; exact hp) (by rw [hs k hk (by rw [hP k hk]; exact hp)]; exact hs')
  · exact rch_step hg hj (by rw [hP j hj]; exact hp) hm
  · refine rch_ind hg (fun k => k < m → rch m a b P' s' k = true) ?_ ?_ hk
    · intro k hk hp hs' _
      exact rch_start hk (by rw [← hP k hk]; exact hp) (by rw [← hs k hk hp]; exact hs')
    · intro k j hk hj hp ih hm _
      exact rch_step (ih hk) hj (by rw [← hP j hj]; exact hp) hm
/-- from a line of the pool, or from one of its posts: the same -/
theorem rch_post {m : Nat} {a b : Nat → Nat} {P : Nat → Bool} {l p : Nat} (hl : l < m) (hp : P l = true) (hi : inc a b l p = true) : ∀ k, k < m → rch m a b P (fun k => decide (k = l)) k = rch m a b P (fun k => inc a b k p) k := by
  refine fun k hk => rch_eq (fun k hk hpk hs => ?_) (fun k j hk hj hpj hg hm => rch_step hg hj hpj hm) (fun k hk hg => ?_) k hk
  · by_cases h : k = l
    · subst h; exact rch_start hk hp (by simp)
    · exact rch_step (rch_start hl hp (by simp)) hk hpk (mts_iff.mpr ⟨Ne.symm h, p, hi, hs⟩)
  · refine rch_ind hg (fun k => k < m → rch m a b P (fun k => inc a b k p) k = true) ?_ ?_ hk
    · intro k hk hpk hs _
      have h : k = l := by simpa using hs
      subst h
      exact rch_start hk hpk hi
    · intro k j hk hj hpj ih hm _
      exact rch_step (ih hk) hj hpj hm
section
variable {n m : Nat} {a b : Nat → Nat} {c : Nat → Int32} {σ : kk_St}
/-- the class's flood -/
theorem sc_joined (R : RN n m a b σ) (hm : m ≤ 20) {s P : Nat → Bool} {Q : Int32 → Prop} (h : Q (mk (rch m a b P s) m)) : f_X6_joined (mk s m) (mk P m) σ Q := by
  unfold f_X6_joined
  dsimp only [kk_j1]
  rw [mk_and]
  -- got G, waiting X; t lines are done with
  refine kk_lpI3 (fun g x i => ∃ (G X : Nat → Bool) (t : Nat), g = mk G m ∧ x = mk X m ∧ i = nI t ∧ t ≤ 20 ∧ (∀ k, k < m → X k = true → G k = true) ∧ (∀ k, k < m → P k = true → s k = true → G k = true) ∧ (∀ k, k < m → G k = true → rch m a b P s k = true) ∧ (∀ k j, k < m → j < m → G k = true → X k = false → P j = true → mts a b k j = true → G j = true) ∧ fb_ct (fun k => G k && !X k) m = t) (fun _ _ i => 20 - i.toNatClampNeg) ?_ ?h0
  case h0 =>
    refine ⟨fun k => s k && P k, fun k => s k && P k, 0, rfl, rfl, rfl, by omega, fun _ _ h => h, ?_, ?_, ?_, ?_⟩
    · intro k _ h1 h2
      show (s k && P k) = true
      rw [h1, h2]; rfl
    · intro k hk hg
      have hg : (s k && P k) = true := hg
      rw [Bool.and_eq_true] at hg
      exact rch_start hk hg.2 hg.1
    · intro k j hk hj hg hx
      rw [hg] at hx; cases hx
    · exact fb_ct_zero.mpr (fun k _ => by
        show ((s k && P k) && !(s k && P k)) = false
        cases s k <;> cases P k <;> rfl)
  rintro rec g x i ⟨G, X, t, rfl, rfl, rfl, ht, i1, i2, i3, i4, i5⟩ hrec
  have done : (∀ k, k < m → X k = false) → Q (mk G m) := by
    intro hX
    have := rch_eq (G := G) i2 (fun k j hk hj hp hg hmt => i4 k j hk hj hg (hX k hk) hp hmt) i3
    rw [mk_cong this]
    exact h
  by_cases ht20 : t = 20
  · refine br_t (by rw [ht20]; exact nI_le (a := 20) (Nat.le_refl _) (by omega)) (done ?_)
    intro k hk
    have hle := fb_ct_le (fun k => G k && !X k) m
    have hall := (fb_ct_all (p := fun k => G k && !X k) (n := m)).mp (by omega) k hk
    simp only [Bool.and_eq_true, Bool.not_eq_true'] at hall
    exact hall.2
  · refine br_f (nI_ge (b := 20) (show t < 20 by omega) (by omega)) ?_
    rcases fst_ex X m with ⟨l, hl, h1, h0⟩ | h0
    · have hne : ¬ mk X m = 0 := fun z => by
        have := (mk_eq0 (by omega)).mp z l hl
        rw [h1] at this; cases this
      refine br_f hne (sp_ntzM (by omega) hl h1 h0 ?_)
      refine ⟨vp_lt (by omega) (by omega), ?_⟩
      intro mo e1 x' e2
      rw [rd_nI (by omega), R.2.2.2.2.2.1 l hl, mk_and, mk_andn] at e1
      rw [mk_clr hl (by omega), e1, mk_or] at e2
      subst e2
      rw [e1, mk_or]
      have hGl := i1 l hl h1
      have hct : fb_ct (fun k => (G k || (mts a b l k && P k && !G k)) && !(X k && !decide (k = l) || (mts a b l k && P k && !G k))) m = t + 1 := by
        have e : ∀ k, k < m → ((G k || (mts a b l k && P k && !G k)) && !(X k && !decide (k = l) || (mts a b l k && P k && !G k))) = (if k = l then true else (G k && !X k)) := by
          intro k hk
          by_cases hkl : k = l
          · subst hkl
            rw [hGl]
            simp
          · rw [if_neg hkl]
            have : decide (k = l) = false := decide_eq_false hkl
            rw [this]
            have h9 := i1 k hk
            cases hG : G k <;> cases hX : X k <;> simp_all
        rw [fb_ct_cong e]
        have := fb_ct_upd (fun k => G k && !X k) true (i := l) (n := m) hl
        rw [i5, h1, hGl] at this
        simpa using this
      refine hrec _ _ _ ⟨_, _, t + 1, rfl, rfl, nI_1 t, by omega, ?_, ?_, ?_, ?_, hct⟩ (by rw [nI_1, nI_clamp (by omega), nI_clamp (by omega)]; omega)
      · intro k hk hx
        simp only [Bool.or_eq_true, Bool.and_eq_true] at hx ⊢
        rcases hx with hx | hx
        · exact Or.inl (i1 k hk hx.1)
        · exact Or.inr hx
      · intro k hk hp hs
        rw [i2 k hk hp hs]; rfl
      · intro k hk hg
        simp only [Bool.or_eq_true, Bool.and_eq_true] at hg
        rcases hg with hg | hg
        · exact i3 k hk hg
        · exact rch_step (i3 l hl hGl) hk hg.1.2 hg.1.1
      · intro k j hk hj hg hx hp hmt
        simp only [Bool.or_eq_false_iff] at hx
        by_cases hkl : k = l
        · subst hkl
          cases hGj : G j with
          | true => rfl
          | false => simp [hmt, hp]
        · have hXk : X k = false := by
            have := hx.1
            rw [decide_eq_false hkl] at this
            simpa using this
          have hGk : G k = true := by
            rw [hx.2, Bool.or_false] at hg
            exact hg
          rw [i4 k j hk hj hGk hXk hp hmt]; rfl
    · exact br_t ((mk_eq0 (by omega)).mpr h0) (done h0)
theorem sc_chainOf (R : RN n m a b σ) (K : RK m c σ) (hm : m ≤ 20) {p o w : Nat} (hp : p < 9) (ho : o < 9) (hw : w < 9) {Q : Int32 → Prop} (h : Q (mk (rch m a b (fun k => decide (c k = nI o) || decide (c k = nI w)) (fun k => inc a b k p)) m)) : f_X3_chainOf (nI p) (nI o) (nI w) σ Q := by
  unfold f_X3_chainOf
  refine ⟨vp_lt hp (by omega), vp_lt ho (by omega), vp_lt hw (by omega), ?_⟩
  rw [rd_nI (by omega), rd_nI (by omega), rd_nI (by omega), R.2.2.2.2.2.2.1 p hp, K.2 o ho, K.2 w hw, mk_or]
  exact sc_joined R hm h
/-- posts of a chain: the first one, and ends of its lines -/
def chp (m : Nat) (a b : Nat → Nat) (G : Nat → Bool) (p q : Nat) : Bool := decide (q = p) || anyb (fun k => G k && inc a b k q) m
/-- nothing but one field of the object, and cells of L -/
def frF (L : List Nat) (F : List Nat) (σ σ' : kk_St) : Prop := (∀ q, q ∉ L → q ≠ 0 → σ'.1 q = σ.1 q) ∧ (∀ i, i ∉ F → σ'.1 0 i = σ.1 0 i) ∧ σ'.2 = σ.2
theorem frF_rf {L F : List Nat} {σ : kk_St} : frF L F σ σ := ⟨fun _ _ _ => rfl, fun _ _ => rfl, rfl⟩
theorem frF_tr {L F : List Nat} {σ τ ρ : kk_St} (h1 : frF L F σ τ) (h2 : frF L F τ ρ) : frF L F σ ρ := ⟨fun q hq h0 => (h2.1 q hq h0).trans (h1.1 q hq h0), fun i hi => (h2.2.1 i hi).trans (h1.2.1 i hi), h2.2.2.trans h1.2.2⟩
theorem frF_mono {L F L' F' : List Nat} {σ τ : kk_St} (h : frF L F σ τ) (hL : ∀ q, q ∈ L → q ∈ L') (hF : ∀ q, q ∈ F → q ∈ F') : frF L' F' σ τ := ⟨fun q hq h0 => h.1 q (fun z => hq (hL q z)) h0, fun i hi => h.2.1 i (fun z => hi (hF i z)), h.2.2⟩
theorem frF_f {L F : List Nat} {σ : kk_St} {i : Nat} {x : Int32} (h : i ∈ F) : frF L F σ (kk_wr σ 0 i x) := ⟨fun q _ h0 => wr_ne σ i x h0, fun j hj => by rw [wr_at, upd_ne _ _ (fun z => hj (by rw [z]; exact h))], rfl⟩
theorem frF_c {L F : List Nat} {σ : kk_St} {q i : Nat} {x : Int32} (h : q ∈ L) (h0 : q ≠ 0) : frF L F σ (kk_wr σ q i x) := ⟨fun q' hq _ => wr_ne σ i x (fun z => hq (by rw [z]; exact h)), fun j _ => by rw [wr_ne σ i x (Ne.symm h0)], rfl⟩
theorem frF_L {L F : List Nat} {σ τ : kk_St} (h : frL L σ τ) (h0 : 0 ∉ L) : frF L F σ τ := ⟨fun q hq _ => h.1 q hq, fun j _ => by rw [h.1 0 h0], h.2⟩
theorem RM_fr {n m : Nat} {a b : Nat → Nat} {c : Nat → Int32} {σ σ' : kk_St} {L F : List Nat} (R : RM n m a b c σ) (h : frF L F σ σ') (hL : 1 ∉ L ∧ 2 ∉ L ∧ 3 ∉ L) (hF : 1 ∉ F ∧ 2 ∉ F) : RM n m a b c σ' := by
  obtain ⟨h1, h2, h3⟩ := hL
  unfold RM
  rw [h.2.1 1 hF.1, h.2.1 2 hF.2, h.1 1 h1 (by decide), h.1 2 h2 (by decide), h.1 3 h3 (by decide)]
  exact R
/-- the reference's chain, over any of its rows -/
theorem sm_chainIn (R : RM n m a b c σ) (W : Wf n m a b) {A : Nat} {e : Nat → Int32} (hA0 : A ≠ 0) (hA : ∀ k, k < m → σ.1 A k = e k) {p : Nat} (hp : p < 9) {v w : Int32} {Q : Int32 → kk_St → Prop} (h : ∀ σ', frF [] [9] σ σ' → σ'.1 0 9 = mk (chp m a b (rch m a b (fun k => decide (e k = v) || decide (e k = w)) (fun k => inc a b k p)) p) 9 → Q (mk (rch m a b (fun k => decide (e k = v) || decide (e k = w)) (fun k => inc a b k p)) m) σ') : f_X11_chainIn A 20 (nI p) v w σ Q := by
  have hm := W.2.2.1
  have hn := W.2.1
  unfold f_X11_chainIn
  intro σ0 e0
  generalize hPd : (fun k => decide (e k = v) || decide (e k = w)) = P at h
  generalize hsd : (fun k => inc a b k p) = s at h
  have hsv : ∀ k, s k = inc a b k p := fun k => by rw [← hsd]
  have F0 : frF [] [9] σ σ0 := by rw [e0]; exact frF_f (by simp)
  have c0 : σ0.1 0 9 = mk (chp m a b (fun _ => false) p) 9 := by
    rw [e0, wr_at, upd_at, mk_one hp (by omega)]
    refine mk_cong (fun q hq => ?_)
    unfold chp
    rw [anyb_no.mpr (fun k _ => by simp)]; simp
  have hle : ∀ G : Nat → Bool, fb_ct G m ≤ m := fun G => fb_ct_le G m
  refine kk_lpI3 (fun g x τ => ∃ G : Nat → Bool, g = mk G m ∧ (∀ k, k < m → G k = true → rch m a b P s k = true) ∧ frF [] [9] σ τ ∧ τ.1 0 9 = mk (chp m a b G p) 9 ∧ (x = -1 ∨ ∃ X : Nat → Bool, x = mk X m ∧ (∀ k, k < m → X k = true → G k = true)) ∧ (x = g → (∀ k, k < m → P k = true → (s k = true ∨ anyb (fun j => G j && mts a b j k) m = true) → G k = true))) (fun g x _ => 2 * (21 - pop g) + if x = g then 0 else 1) ?_ ?h0
  case h0 =>
    refine ⟨fun _ => false, (mk_0 m).symm, ?_, F0, c0, Or.inl rfl, ?_⟩
    · intro k _ hk
      have hk : false = true := hk
      cases hk
    · intro z
      exact absurd z (by decide)
  rintro rec g x τ ⟨G, rfl, i1, i2, i3, i4, i5⟩ hrec
  by_cases hx : x = mk G m
  · refine br_t hx ?_
    have hc := i5 hx
    have hG := rch_eq (G := G) (fun k hk hpk hsk => hc k hk hpk (Or.inl hsk)) (fun k j hk hj hpj hgk hmt => hc j hj hpj (Or.inr (anyb_iff.mpr ⟨k, hk, by rw [hgk, hmt]; rfl⟩))) i1
    rw [mk_cong hG]
    refine h τ i2 ?_
    rw [i3]
    refine mk_cong (fun q _ => ?_)
    unfold chp
    congr 1
    exact anyb_cong (fun k hk => by rw [hG k hk])
  · refine br_f hx ?_
    -- one pass
    refine lf_3_1 m (by omega) (fun k g' τ' => ∃ G' : Nat → Bool, g' = mk G' m ∧ (∀ j, j < m → G j = true → G' j = true) ∧ (∀ j, j < m → G' j = true → rch m a b P s j = true) ∧ frF [] [9] σ τ' ∧ τ'.1 0 9 = mk (chp m a b G' p) 9 ∧ (∀ j, j < k → P j = true → (chp m a b G p (a j) = true ∨ chp m a b G p (b j) = true) → G' j = true)) (Nat.zero_le _) ⟨G, rfl, fun _ _ z => z, i1, i2, i3, fun j hj => absurd hj (Nat.not_lt_zero _)⟩ ?_ ?_
    · rintro rec2 k g' τ' hk ⟨G', rfl, j1, j2, j3, j4, j5⟩ hrec2
      have R' : RM n m a b c τ' := RM_fr R j3 (by simp) (by simp)
      have hA' : τ'.1 A k = e k := by rw [j3.1 A (by simp) hA0]; exact hA k hk
      have hwk := W.2.2.2.1 k hk
      refine br_f (by rw [R'.2.1]; exact nI_ge hk (by omega)) ⟨vp_lt (by omega) (by omega), ?_⟩
      dsimp only [kk_j2, kk_j0]
      rw [rd_nI (by omega), rd_nI (by omega), rd_nI (by omega), hA', R'.2.2.1 k hk, R'.2.2.2.1 k hk, j4]
      have pk : P k = (decide (e k = v) || decide (e k = w)) := by rw [← hPd]
      have skip : (P k = true → (chp m a b G p (a k) = true ∨ chp m a b G p (b k) = true) → G' k = true) → rec2 (mk G' m) (nI k + 1) τ' := by
        intro hz
        refine hrec2 _ _ ⟨G', rfl, j1, j2, j3, j4, fun j hj hpj hcj => ?_⟩
        by_cases hjk : j = k
        · subst hjk; exact hz hpj hcj
        · exact j5 j (by omega) hpj hcj
      have chmono : ∀ q, chp m a b G p q = true → chp m a b G' p q = true := by
        intro q hq
        unfold chp at hq ⊢
        rw [Bool.or_eq_true] at hq ⊢
        rcases hq with hq | hq
        · exact Or.inl hq
        · obtain ⟨j, hj, hj2⟩ := anyb_iff.mp hq
          simp only [Bool.and_eq_true] at hj2
          exact Or.inr (anyb_iff.mpr ⟨j, hj, by rw [j1 j hj hj2.1, hj2.2]; rfl⟩)
      have take : P k = true → (chp m a b G' p (a k) = true ∨ chp m a b G' p (b k) = true) → ∀ v5 : Int32, v5 = mk G' m ||| ((1 : Int32) <<< (nI k &&& 31)) → vp_in (nI k) 20 ∧ vp_in (nI k) 20 ∧ ∀ σ_17 : kk_St, σ_17 = kk_wr τ' 0 9 (mk (chp m a b G' p) 9 ||| (((1 : Int32) <<< (nI (a k) &&& 31)) ||| ((1 : Int32) <<< (nI (b k) &&& 31)))) → rec2 v5 (nI k + 1) σ_17 := by
        intro hpk hck v5 e5
        refine ⟨vp_lt (by omega) (by omega), vp_lt (by omega) (by omega), ?_⟩
        intro τ2 e2
        rw [mk_set hk (by omega)] at e5
        rw [mk_one (show a k < 9 by omega) (by omega), mk_one (show b k < 9 by omega) (by omega), mk_or, mk_or] at e2
        subst e5
        have hrk : rch m a b P s k = true := by
          have at_ : ∀ q, chp m a b G' p q = true → inc a b k q = true → rch m a b P s k = true := by
            intro q hq hiq
            unfold chp at hq
            rw [Bool.or_eq_true, decide_eq_true_eq] at hq
            rcases hq with hq | hq
            · subst hq
              exact rch_start hk hpk (by rw [hsv]; exact hiq)
            · obtain ⟨j, hj, hj2⟩ := anyb_iff.mp hq
              simp only [Bool.and_eq_true] at hj2
              by_cases hjk : j = k
              · subst hjk; exact j2 j hj hj2.1
              · exact rch_step (j2 j hj hj2.1) hk hpk (mts_iff.mpr ⟨hjk, q, hj2.2, hiq⟩)
          rcases hck with z | z
          · exact at_ _ z (inc_iff.mpr (Or.inl rfl))
          · exact at_ _ z (inc_iff.mpr (Or.inr rfl))
        refine hrec2 _ _ ⟨_, rfl, fun j hj hg => by rw [j1 j hj hg]; rfl, fun j hj hg => ?_, ?_, ?_, fun j hj hpj hcj => ?_⟩
        · simp only [Bool.or_eq_true, decide_eq_true_eq] at hg
          rcases hg with hg | hg
          · exact j2 j hj hg
          · subst hg; exact hrk
        · rw [e2]; exact frF_tr j3 (frF_f (by simp))
        · rw [e2, wr_at, upd_at]
          refine mk_cong (fun q hq => ?_)
          unfold chp
          cases hd : decide (q = p) with
          | true => rfl
          | false =>
            simp only [Bool.false_or]
            apply Bool.eq_iff_iff.mpr
            rw [Bool.or_eq_true, anyb_iff, anyb_iff]
            constructor
            · rintro (⟨j, hj, hj2⟩ | hz)
              · simp only [Bool.and_eq_true] at hj2
                exact ⟨j, hj, by rw [hj2.1, hj2.2]; rfl⟩
              · refine ⟨k, hk, ?_⟩
                simp only [Bool.or_eq_true, decide_eq_true_eq] at hz
                rw [inc_iff.mpr (by omega)]; simp
            · rintro ⟨j, hj, hj2⟩
              simp only [Bool.and_eq_true, Bool.or_eq_true, decide_eq_true_eq] at hj2
              rcases hj2.1 with hz | hz
              · exact Or.inl ⟨j, hj, by rw [hz, hj2.2]; rfl⟩
              · right
                subst hz
                rcases inc_iff.mp hj2.2 with hy | hy
                · simp [hy]
                · simp [hy]
        · by_cases hjk : j = k
          · simp [hjk]
          · rw [j5 j (by omega) hpj hcj]; rfl
      have mid : P k = true → vp_in (nI k) 20 ∧ f_X11_has (mk (chp m a b G' p) 9) (nI (a k)) (fun r_14 => (¬ r_14 = 0 → ∀ v5 : Int32, v5 = mk G' m ||| ((1 : Int32) <<< (nI k &&& 31)) → vp_in (nI k) 20 ∧ vp_in (nI k) 20 ∧ ∀ σ_17 : kk_St, σ_17 = kk_wr τ' 0 9 (mk (chp m a b G' p) 9 ||| (((1 : Int32) <<< (nI (a k) &&& 31)) ||| ((1 : Int32) <<< (nI (b k) &&& 31)))) → rec2 v5 (nI k + 1) σ_17) ∧ (r_14 = 0 → vp_in (nI k) 20 ∧ f_X11_has (mk (chp m a b G' p) 9) (nI (b k)) (fun r_18 => (¬ r_18 = 0 → ∀ v5 : Int32, v5 = mk G' m ||| ((1 : Int32) <<< (nI k &&& 31)) → vp_in (nI k) 20 ∧ vp_in (nI k) 20 ∧ ∀ σ_17 : kk_St, σ_17 = kk_wr τ' 0 9 (mk (chp m a b G' p) 9 ||| (((1 : Int32) <<< (nI (a k) &&& 31)) ||| ((1 : Int32) <<< (nI (b k) &&& 31)))) → rec2 v5 (nI k + 1) σ_17) ∧ (r_18 = 0 → rec2 (mk G' m) (nI k + 1) τ')))) := by
        intro hpk
        refine ⟨vp_lt (by omega) (by omega), ?_⟩
        refine sp_hasM (by omega) (by omega) ?_
        rw [bI_ite]
        refine bI_nz (fun hz => take hpk (Or.inl hz)) (fun hz => ⟨vp_lt (by omega) (by omega), ?_⟩)
        refine sp_hasM (by omega) (by omega) ?_
        rw [bI_ite]
        refine bI_nz (fun hy => take hpk (Or.inr hy)) (fun hy => skip (fun _ hcj => ?_))
        rcases hcj with hcj | hcj
        · rw [chmono _ hcj] at hz; cases hz
        · rw [chmono _ hcj] at hy; cases hy
      by_cases h1 : e k = v
      · exact br_t h1 (mid (by rw [pk, decide_eq_true h1]; rfl))
      · refine br_f h1 ⟨vp_lt (by omega) (by omega), ?_⟩
        by_cases h2 : e k = w
        · exact jn_f h2 (mid (by rw [pk, decide_eq_true h2, Bool.or_true]))
        · exact jn_t h2 (skip (fun hpk => by rw [pk, decide_eq_false h1, decide_eq_false h2] at hpk; cases hpk))
    · rintro rec2 g' τ' ⟨G', rfl, j1, j2, j3, j4, j5⟩
      have R' : RM n m a b c τ' := RM_fr R j3 (by simp) (by simp)
      refine br_t (by rw [R'.2.1]; exact nI_le (Nat.le_refl _) (by omega)) ?_
      have hsub : fb_ct G m ≤ fb_ct G' m := fb_ct_sub (fun k hk hg => j1 k hk hg)
      have pG := mk_pop (P := G) (n := m) (by omega)
      have pG' := mk_pop (P := G') (n := m) (by omega)
      refine hrec _ _ _ ⟨G', rfl, j2, j3, j4, Or.inr ⟨G, rfl, j1⟩, fun heq k hk hpk hor => ?_⟩ ?_
      · have hGG := mk_inj (by omega) heq
        refine j5 k hk hpk ?_
        have hq : ∃ q, inc a b k q = true ∧ chp m a b G p q = true := by
          rcases hor with hor | hor
          · exact ⟨p, by rw [← hsv]; exact hor, by unfold chp; simp⟩
          · obtain ⟨j, hj, hj2⟩ := anyb_iff.mp hor
            simp only [Bool.and_eq_true] at hj2
            obtain ⟨_, q, q1, q2⟩ := mts_iff.mp hj2.2
            refine ⟨q, q2, ?_⟩
            unfold chp
            rw [anyb_iff.mpr ⟨j, hj, by rw [hGG j hj, hj2.1, q1]; rfl⟩]; simp
        obtain ⟨q, q1, q2⟩ := hq
        rcases inc_iff.mp q1 with z | z
        · left; rw [z]; exact q2
        · right; rw [z]; exact q2
      · rw [pG, pG', if_neg hx]
        have b1 := hle G
        have b2 := hle G'
        by_cases heq : mk G m = mk G' m
        · rw [if_pos heq]
          have : fb_ct G m = fb_ct G' m := by rw [← pG, ← pG', heq]
          omega
        · rw [if_neg heq]
          have hlt : fb_ct G m < fb_ct G' m := by
            refine Nat.lt_of_le_of_ne hsub (fun hz => heq (mk_cong (fun k hk => ?_)))
            cases hg : G k with
            | true => rw [j1 k hk hg]
            | false =>
              cases hg' : G' k with
              | false => rfl
              | true =>
                exfalso
                have e1 : fb_ct (fun j => G j || decide (j = k)) m ≤ fb_ct G' m := fb_ct_sub (fun j hj hgj => by
                  simp only [Bool.or_eq_true, decide_eq_true_eq] at hgj
                  rcases hgj with z | z
                  · exact j1 j hj z
                  · rw [z]; exact hg')
                have e2 : fb_ct (fun j => G j || decide (j = k)) m = fb_ct (fun j => if j = k then true else G j) m := fb_ct_cong (fun j _ => by by_cases z : j = k <;> simp [z])
                have e3 := fb_ct_upd G true (i := k) (n := m) hk
                rw [hg] at e3
                simp only [Bool.false_eq_true, ↓reduceIte, Nat.add_zero] at e3
                omega
          omega
end
