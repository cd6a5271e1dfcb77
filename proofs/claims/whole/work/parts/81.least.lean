/-! the first colouring: the first side -/
def Ok (a b : Nat → Nat) (O : Nat → Nat → Bool) (f : Nat → Nat) (k : Nat) : Nat → Nat → Bool := fun q l => O q l && !anyb (fun i => decide (f i = q) && mts a b i l) k
def Sge (k : Nat) : Nat → Bool := fun l => decide (k ≤ l)
section
variable {n m : Nat} {a b : Nat → Nat}
theorem LO_lt {O : Nat → Nat → Bool} {l q : Nat} (h : LO O l q = true) : q < 9 ∧ O q l = true := by
  simpa [LO] using h
theorem LO_mk {O : Nat → Nat → Bool} {l q : Nat} (h1 : q < 9) (h2 : O q l = true) : LO O l q = true := by
  simp [LO, h1, h2]
theorem okc_res {O : Nat → Nat → Bool} {f : Nat → Nat} {k : Nat} (hk : k ≤ m) (h : okc m a b (LO O) allS f) : okc m a b (LO (Ok a b O f k)) (Sge k) f := by
  refine ⟨fun l hl hs => ?_, fun i j hi hj _ _ hm => h.2 i j hi hj rfl rfl hm⟩
  have hs : k ≤ l := of_decide_eq_true hs
  obtain ⟨g1, g2⟩ := LO_lt (h.1 l hl rfl)
  refine LO_mk g1 ?_
  unfold Ok
  rw [g2, Bool.true_and, anyb_no.mpr (fun i hi => ?_)]
  · rfl
  · by_cases e : f i = f l
    · cases z : mts a b i l with
      | false => simp
      | true => exact absurd e (h.2 i l (by omega) hl rfl rfl z)
    · rw [decide_eq_false e]; rfl
theorem okc_glue {O : Nat → Nat → Bool} {f f' : Nat → Nat} {k : Nat} (hk : k ≤ m) (h : okc m a b (LO O) allS f) (h' : okc m a b (LO (Ok a b O f k)) (Sge k) f') : okc m a b (LO O) allS (fun l => if l < k then f l else f' l) := by
  have ge : ∀ l, l < m → ¬ l < k → f' l < 9 ∧ O (f' l) l = true ∧ ∀ i, i < k → f i = f' l → mts a b i l = false := fun l hl hk' => by
    obtain ⟨g1, g2⟩ := LO_lt (h'.1 l hl (decide_eq_true (by omega)))
    unfold Ok at g2
    rw [Bool.and_eq_true, Bool.not_eq_true'] at g2
    refine ⟨g1, g2.1, fun i hi e => ?_⟩
    have := anyb_no.mp g2.2 i hi
    rw [decide_eq_true e, Bool.true_and] at this
    exact this
  refine ⟨fun l hl _ => ?_, fun i j hi hj _ _ hm => ?_⟩
  · by_cases e : l < k
    · dsimp only; rw [if_pos e]; exact h.1 l hl rfl
    · dsimp only; rw [if_neg e]; exact LO_mk (ge l hl e).1 (ge l hl e).2.1
  · dsimp only
    by_cases e1 : i < k
    · rw [if_pos e1]
      by_cases e2 : j < k
      · rw [if_pos e2]; exact h.2 i j hi hj rfl rfl hm
      · rw [if_neg e2]
        intro z
        rw [(ge j hj e2).2.2 i e1 z] at hm; cases hm
    · rw [if_neg e1]
      by_cases e2 : j < k
      · rw [if_pos e2]
        intro z
        rw [mts_comm, (ge i hi e1).2.2 j e2 z.symm] at hm; cases hm
      · rw [if_neg e2]
        exact h'.2 i j hi hj (decide_eq_true (by omega)) (decide_eq_true (by omega)) hm
theorem Ok_cong {O : Nat → Nat → Bool} {f g : Nat → Nat} {k : Nat} (h : ∀ i, i < k → f i = g i) : Ok a b O f k = Ok a b O g k := by
  funext q l
  unfold Ok
  rw [anyb_cong (P := fun i => decide (f i = q) && mts a b i l) (P' := fun i => decide (g i = q) && mts a b i l) (fun i hi => by rw [h i hi])]
theorem sc_fixLeast {O : Nat → Nat → Bool} {S : Nat → Bool} {σ : kk_St} {f0 : Nat → Nat} {k : Nat} (W : Wf n m a b) (N : RN n m a b σ) (H : OP m O σ) (hk : k < m) (hs : S k = true) (h0 : okc m a b (LO O) S f0) (hc : ∀ l, l < m → S l = true → σ.1 21 l = nI (f0 l)) {Q : kk_St → Prop} (h : ∀ f τ, cmpS m a b O S σ f τ → (∀ g, okc m a b (LO O) S g → f k ≤ g k) → Q τ) : f_X7_fixLeast (nI k) (mk (Sno S k) m) σ Q := by
  have hm := W.2.2.1
  have f9 := (LO_lt (h0.1 k hk hs)).1
  unfold f_X7_fixLeast
  refine lf_2_0 (f0 k) (by omega) (fun q τ => frL [] σ τ ∧ ∀ g, okc m a b (LO O) S g → q ≤ g k) (Nat.zero_le _) ⟨frL_rf, fun _ _ => Nat.zero_le _⟩ ?_ ?_
  · rintro rec q τ hq ⟨fr, no⟩ hrec
    have Nk := RN_fr N fr (by simp)
    have Hk : OP m O τ := fun q hq => by rw [fr.1 20 (by simp)]; exact H q hq
    refine ⟨vp_lt (by omega) (by omega), ?_⟩
    rw [rd_nI (by omega), fr.1 21 (by simp), hc k hk hs]
    refine br_f (nI_ge hq (by omega)) ⟨vp_lt (by omega) (by omega), ?_⟩
    rw [rd_nI (by omega), Hk q (by omega), z_bit0 _ (by omega), mk_bt _ _ (by omega)]
    dsimp only [kk_j1]
    have skip : (∀ f, okc m a b (LO O) S f → f k ≠ q) → ∀ τ', frL [] σ τ' → rec (nI q + 1) τ' := fun h τ' f' => hrec _ ⟨f', fun f hf => by
      have := no f hf
      have := h f hf
      omega⟩
    constructor
    · intro z
      have z : O q k = false := by simpa [hk] using z
      refine skip (fun f hf e => ?_) τ fr
      have := (LO_lt (hf.1 k hk hs)).2
      rw [e, z] at this
      cases this
    · intro z
      have z : O q k = true := by simpa [hk] using z
      have lt := Sno_lt hk hs
      have le := fb_ct_le S m
      refine sc_with W Nk Hk hk (by omega) hs z (fun σ' Q' N' H' g1 g0 => sc_complete W 30 0 _ _ σ' Q' N' H' (by omega) (by omega) g1 g0) (fun f τ' hc' e => br_f (by decide) ?_) (fun hx τ' hτ' => br_t rfl (skip hx τ' (frL_tr fr hτ')))
      obtain ⟨c1, c2, c3, c4⟩ := hc'
      refine h f τ' ⟨c1, frL_tr (frL_mono fr (by simp)) c2, c3, fun l hl => ?_⟩ (fun g hg => by rw [e]; exact no g hg)
      rw [c4 l hl, fr.1 21 (by simp)]
  · rintro rec τ ⟨fr, no⟩
    refine ⟨vp_lt (by omega) (by omega), ?_⟩
    rw [rd_nI (by omega), fr.1 21 (by simp), hc k hk hs]
    refine br_t (nI_le (Nat.le_refl _) (by omega)) (h f0 τ ⟨h0, frL_mono fr (by simp), fun l hl hs' => by rw [fr.1 21 (by simp)]; exact hc l hl hs', fun l _ => by rw [fr.1 21 (by simp)]⟩ no)
theorem sc_findLeast {O : Nat → Nat → Bool} {σ : kk_St} (W : Wf n m a b) (N : RN n m a b σ) (H : OP m O σ) {Q : Int32 → kk_St → Prop} (h1 : ∀ f τ, fstc m a b (LO O) allS f → frL [20, 21, 22] σ τ → (∀ l, l < m → f l < 9 ∧ τ.1 22 l = nI (f l)) → Q 1 τ) (h0 : ¬ exc m a b (LO O) allS → ∀ τ, frL [20, 21, 22] σ τ → Q 0 τ) : f_X7_findLeast σ Q := by
  have hm := W.2.2.1
  unfold f_X7_findLeast
  refine sc_allLines N hm ?_
  have le := fb_ct_le allS m
  refine sc_complete W 30 0 O allS σ _ N H (by omega) (by omega) (fun f0 τ0 hc0 => jn_t (by decide) ?_) (fun hx τ hτ => jn_f rfl (h0 hx τ (frL_mono hτ (by simp))))
  obtain ⟨c1, c2, c3, c4⟩ := hc0
  refine lf_3_1 m (by omega) (fun k v τ => v = mk (Sge k) m ∧ frL [20, 21, 22] σ τ ∧ ∃ f, okc m a b (LO O) allS f ∧ OP m (Ok a b O f k) τ ∧ (∀ l, k ≤ l → l < m → τ.1 21 l = nI (f l)) ∧ (∀ l, l < k → τ.1 22 l = nI (f l)) ∧ ∀ g, okc m a b (LO O) allS g → ∀ j, j < k → (∀ i, i < j → g i = f i) → f j ≤ g j) (Nat.zero_le _) ⟨mk_cong (fun l _ => by simp [Sge]), frL_mono c2 (by simp), f0, c1, ?_, fun l _ hl => c3 l hl rfl, fun _ h => absurd h (Nat.not_lt_zero _), fun _ _ _ h => absurd h (Nat.not_lt_zero _)⟩ ?_ ?_
  · intro q hq
    rw [c2.1 20 (by simp), H q hq]
    exact mk_cong (fun l _ => by unfold Ok; simp [anyb])
  · rintro rec k _ τ hk ⟨rfl, fr, f, f1, f2, f3, f4, f5⟩ hrec
    have Nk := RN_fr N fr (by simp)
    rw [Nk.2.1]
    refine br_f (nI_ge hk (by omega)) ?_
    rintro _ rfl
    have eS : mk (Sge k) m &&& (((1 : Int32) <<< (nI k &&& 31)) ^^^ (-1 : Int32)) = mk (Sno (Sge k) k) m := mk_clr hk (by omega)
    rw [eS]
    refine sc_fixLeast W Nk f2 hk (decide_eq_true (Nat.le_refl _)) (okc_res (by omega) f1) (fun l hl hs => f3 l (of_decide_eq_true hs) hl) (fun f' τ' hc' mn => ?_)
    obtain ⟨d1, d2, d3, d4⟩ := hc'
    have g9 := (LO_lt (d1.1 k hk (decide_eq_true (Nat.le_refl _)))).1
    have e21 : τ'.1 21 k = nI (f' k) := d3 k hk (decide_eq_true (Nat.le_refl _))
    have ck : Int32.toNatClampNeg (nI k) = k := nI_clamp (by omega)
    refine ⟨vp_lt (by omega) (by omega), vp_lt (by omega) (by omega), ?_⟩
    rintro _ rfl
    have w21 : ∀ x, (kk_wr τ' 22 (Int32.toNatClampNeg (nI k)) x).1 21 = τ'.1 21 := fun x => wr_ne _ _ _ (by decide)
    have w20 : ∀ x, (kk_wr τ' 22 (Int32.toNatClampNeg (nI k)) x).1 20 = τ'.1 20 := fun x => wr_ne _ _ _ (by decide)
    have w13 : ∀ x, (kk_wr τ' 22 (Int32.toNatClampNeg (nI k)) x).1 13 = τ'.1 13 := fun x => wr_ne _ _ _ (by decide)
    rw [rd_nI (q := 21) (show k < 2 ^ 31 by omega), rd_nI (q := 21) (show k < 2 ^ 31 by omega), w21, e21]
    refine ⟨vp_lt (by omega) (by omega), vp_lt (by omega) (by omega), vp_lt (by omega) (by omega), vp_lt (by omega) (by omega), ?_⟩
    rintro _ rfl
    have N' := RN_fr Nk d2 (by simp)
    rw [rd_nI (q := 20) (show f' k < 2 ^ 31 by omega), rd_nI (q := 13) (show k < 2 ^ 31 by omega), w20, w13, N'.2.2.2.2.2.1 k hk, d2.1 20 (by simp), f2 _ g9, mk_andn, ck, nI_clamp (show f' k < 2 ^ 31 by omega)]
    have gl := okc_glue (by omega) f1 d1
    have lo : ∀ i, i < k → (fun l => if l < k then f l else f' l) i = f i := fun i hi => if_pos hi
    have hi' : ∀ i, k ≤ i → (fun l => if l < k then f l else f' l) i = f' i := fun i hi => if_neg (by omega)
    refine hrec _ _ ⟨mk_cong (fun l _ => ?_), frL_tr (frL_tr (frL_tr fr (frL_mono d2 (by simp))) (frL_wr (by simp))) (frL_wr (by simp)), fun l => if l < k then f l else f' l, gl, fun q hq => ?_, fun l h1' h2' => ?_, fun l hl => ?_, fun g hg j hj e => ?_⟩
    · unfold Sno Sge
      by_cases z : k + 1 ≤ l
      · rw [decide_eq_true z, decide_eq_true (show k ≤ l by omega), decide_eq_false (show ¬ l = k by omega)]; rfl
      · rw [decide_eq_false z]
        by_cases y : l = k
        · rw [decide_eq_true y, Bool.not_true, Bool.and_false]
        · rw [decide_eq_false (show ¬ k ≤ l by omega)]; rfl
    · rw [wr_at, upd_if]
      have e2 : ∀ l, Ok a b O (fun l => if l < k then f l else f' l) (k + 1) q l = (Ok a b O f k q l && !(decide (f' k = q) && mts a b k l)) := fun l => by
        have e3 : anyb (fun i => decide ((if i < k then f i else f' i) = q) && mts a b i l) (k + 1) = (anyb (fun i => decide (f i = q) && mts a b i l) k || (decide (f' k = q) && mts a b k l)) := by
          show (anyb _ k || _) = _
          rw [anyb_cong (P := fun i => decide ((if i < k then f i else f' i) = q) && mts a b i l) (P' := fun i => decide (f i = q) && mts a b i l) (fun i hi => by rw [if_pos hi])]
          dsimp only
          rw [if_neg (Nat.lt_irrefl k)]
        unfold Ok
        rw [e3, Bool.not_or, Bool.and_assoc]
      by_cases e : q = f' k
      · rw [if_pos e]
        refine mk_cong (fun l _ => ?_)
        rw [e2 l, e, decide_eq_true rfl, Bool.true_and]
      · rw [if_neg e, wr_ne _ _ _ (by decide), d2.1 20 (by simp), f2 q hq]
        refine mk_cong (fun l _ => ?_)
        rw [e2 l, decide_eq_false (fun z => e z.symm), Bool.false_and, Bool.not_false, Bool.and_true]
    · rw [wr_ne _ _ _ (by decide), wr_ne _ _ _ (by decide), hi' l (by omega)]
      exact d3 l h2' (decide_eq_true (by omega))
    · rw [wr_ne _ _ _ (by decide), wr_at, upd_if]
      by_cases e : l = k
      · rw [if_pos e, e]
        dsimp only
        rw [if_neg (Nat.lt_irrefl k)]
      · rw [if_neg e, d2.1 22 (by simp), f4 l (by omega)]
        dsimp only
        rw [if_pos (show l < k by omega)]
    · by_cases ej : j = k
      · subst ej
        dsimp only
        rw [if_neg (Nat.lt_irrefl j)]
        have eg : ∀ i, i < j → g i = f i := fun i hi => (e i hi).trans (lo i hi)
        have := okc_res (k := j) (by omega) hg
        rw [Ok_cong eg] at this
        exact mn g this
      · dsimp only
        rw [if_pos (show j < k by omega)]
        exact f5 g hg j (by omega) (fun i hi => (e i hi).trans (lo i (by omega)))
  · rintro rec _ τ ⟨rfl, fr, f, f1, f2, f3, f4, f5⟩
    have Nk := RN_fr N fr (by simp)
    rw [Nk.2.1]
    refine br_t (nI_le (Nat.le_refl _) (by omega)) (h1 f τ ⟨f1, fun g hg k hk _ e => f5 g hg k hk (fun i hi => e i hi rfl)⟩ fr (fun l hl => ⟨(LO_lt (f1.1 l hl rfl)).1, f4 l hl⟩))
end
