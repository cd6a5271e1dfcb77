/-! completing, and the first of all -/
theorem fr_back {L : List Nat} {σ τ : kk_St} {c i : Nat} {x : Int32} (h : frL L (kk_wr σ c i x) τ) (hc : c ∉ L) : frL L σ (kk_wr τ c i (σ.1 c i)) := by
  refine ⟨fun q hq => ?_, h.2⟩
  by_cases e : q = c
  · subst e
    rw [wr_at, h.1 q hc, wr_at]
    funext j
    rw [upd_if, upd_if]
    by_cases e : j = i
    · rw [if_pos e, e]
    · rw [if_neg e, if_neg e]
  · rw [wr_ne _ _ _ e, h.1 q hq, wr_ne _ _ _ e]
section
variable {n m : Nat} {a b : Nat → Nat}
def Oup (a b : Nat → Nat) (O : Nat → Nat → Bool) (t q : Nat) : Nat → Nat → Bool := fun q' l => if q' = q then O q l && !mts a b t l else O q' l
def Sno (S : Nat → Bool) (t : Nat) : Nat → Bool := fun l => S l && !decide (l = t)
theorem Sno_lt {S : Nat → Bool} {t : Nat} (ht : t < m) (hs : S t = true) : fb_ct (Sno S t) m < fb_ct S m := ct_strict (x := t) (fun k _ h => by
  unfold Sno at h
  rw [Bool.and_eq_true] at h
  exact h.1) ht (by simp [Sno]) hs
theorem OP_up {O : Nat → Nat → Bool} {σ : kk_St} (N : RN n m a b σ) (H : OP m O σ) {t q : Nat} (ht : t < m) (hq : q < 9) : OP m (Oup a b O t q) (kk_wr σ 20 (Int32.toNatClampNeg (nI q)) (kk_rd σ 20 (nI q) &&& (kk_rd σ 13 (nI t) ^^^ (-1 : Int32)))) ∨ 2 ^ 31 ≤ t := by
  rcases Nat.lt_or_ge t (2 ^ 31) with g | g
  · refine Or.inl (fun q' hq' => ?_)
    rw [nI_clamp (by omega), wr_at, upd_if, rd_nI (by omega), rd_nI g, H q hq, N.2.2.2.2.2.1 t ht, mk_andn]
    by_cases e : q' = q
    · rw [if_pos e]
      exact mk_cong (fun l _ => by unfold Oup; rw [if_pos e])
    · rw [if_neg e, H q' hq']
      exact mk_cong (fun l _ => by unfold Oup; rw [if_neg e])
  · exact Or.inr g
/-- one line more -/
theorem okc_add {O : Nat → Nat → Bool} {S : Nat → Bool} {f : Nat → Nat} {t q : Nat} (hq : q < 9) (ho : O q t = true) (h : okc m a b (LO (Oup a b O t q)) (Sno S t) f) : okc m a b (LO O) S (fun l => if l = t then q else f l) := by
  have inS : ∀ l, S l = true → l ≠ t → Sno S t l = true := fun l h1 h2 => by unfold Sno; rw [h1, decide_eq_false h2]; rfl
  have gl : ∀ l, l < m → S l = true → l ≠ t → f l < 9 ∧ O (f l) l = true ∧ (f l = q → mts a b t l = false) := fun l hl h1 h2 => by
    have := h.1 l hl (inS l h1 h2)
    simp only [LO, Oup, Bool.and_eq_true, decide_eq_true_eq] at this
    by_cases e : f l = q
    · rw [if_pos e] at this
      simp only [Bool.and_eq_true, Bool.not_eq_true'] at this
      exact ⟨this.1, by rw [e]; exact this.2.1, fun _ => this.2.2⟩
    · rw [if_neg e] at this
      exact ⟨this.1, this.2, fun z => absurd z e⟩
  refine ⟨fun l hl hs => ?_, fun i j hi hj h1 h2 hm => ?_⟩
  · simp only [LO, Bool.and_eq_true, decide_eq_true_eq]
    by_cases e : l = t
    · rw [if_pos e]; exact ⟨hq, by rw [e]; exact ho⟩
    · rw [if_neg e]; exact ⟨(gl l hl hs e).1, (gl l hl hs e).2.1⟩
  · have ne := (mts_iff.mp hm).1
    dsimp only
    by_cases e : i = t
    · have e2 : j ≠ t := fun z => ne (e.trans z.symm)
      rw [if_pos e, if_neg e2]
      intro z
      rw [e, (gl j hj h2 e2).2.2 z.symm] at hm
      cases hm
    · rw [if_neg e]
      by_cases e2 : j = t
      · rw [if_pos e2]
        intro z
        rw [e2, mts_comm, (gl i hi h1 e).2.2 z] at hm
        cases hm
      · rw [if_neg e2]
        exact h.2 i j hi hj (inS i h1 e) (inS j h2 e2) hm
theorem okc_del {O : Nat → Nat → Bool} {S : Nat → Bool} {f : Nat → Nat} {t : Nat} (ht : t < m) (hs : S t = true) (h : okc m a b (LO O) S f) : okc m a b (LO (Oup a b O t (f t))) (Sno S t) f := by
  have out : ∀ l, Sno S t l = true → S l = true ∧ l ≠ t := fun l h => by
    unfold Sno at h
    simpa using h
  refine ⟨fun l hl h1 => ?_, fun i j hi hj h1 h2 hm => h.2 i j hi hj (out i h1).1 (out j h2).1 hm⟩
  obtain ⟨g1, g2⟩ := out l h1
  have := h.1 l hl g1
  simp only [LO, Oup, Bool.and_eq_true, decide_eq_true_eq] at this ⊢
  refine ⟨this.1, ?_⟩
  by_cases e : f l = f t
  · rw [if_pos e, ← e, this.2]
    cases z : mts a b t l with
    | false => rfl
    | true => exact absurd e.symm (h.2 t l ht hl hs g1 z)
  · rw [if_neg e]; exact this.2
/-- what a completing gives -/
def cmpS (m : Nat) (a b : Nat → Nat) (O : Nat → Nat → Bool) (S : Nat → Bool) (σ : kk_St) (f : Nat → Nat) (τ : kk_St) : Prop := okc m a b (LO O) S f ∧ frL [21] σ τ ∧ (∀ l, l < m → S l = true → τ.1 21 l = nI (f l)) ∧ ∀ l, (l < m → S l = false) → τ.1 21 l = σ.1 21 l
theorem sc_with {fr : Int32 → Int32 → kk_St → (Int32 → kk_St → Prop) → Prop} {O : Nat → Nat → Bool} {S : Nat → Bool} {σ : kk_St} {d : Int32} (W : Wf n m a b) (N : RN n m a b σ) (H : OP m O σ) {t q : Nat} (ht : t < m) (hq : q < 9) (hs : S t = true) (ho : O q t = true)
    (hfr : ∀ (σ' : kk_St) (Q : Int32 → kk_St → Prop), RN n m a b σ' → OP m (Oup a b O t q) σ' → (∀ f τ, cmpS m a b (Oup a b O t q) (Sno S t) σ' f τ → Q 1 τ) → (¬ exc m a b (LO (Oup a b O t q)) (Sno S t) → ∀ τ, frL [] σ' τ → Q 0 τ) → fr (mk (Sno S t) m) d σ' Q)
    {Q : Int32 → kk_St → Prop} (h1 : ∀ f τ, cmpS m a b O S σ f τ → f t = q → Q 1 τ) (h0 : (∀ f, okc m a b (LO O) S f → f t ≠ q) → ∀ τ, frL [] σ τ → Q 0 τ) : f_X7_completeWith fr (nI t) (nI q) (mk (Sno S t) m) d σ Q := by
  have hm := W.2.2.1
  unfold f_X7_completeWith
  refine ⟨vp_lt (by omega) (by omega), vp_lt (by omega) (by omega), vp_lt (by omega) (by omega), ?_⟩
  rintro _ rfl
  have cq : Int32.toNatClampNeg (nI q) = q := nI_clamp (by omega)
  have up := (OP_up N H ht hq).resolve_right (by omega)
  refine hfr _ _ (RN_fr N (frL_wr (L := [20]) (by simp)) (by simp)) up (fun f τ hc => ?_) (fun hne τ hτ => ?_)
  · refine ⟨vp_lt (by omega) (by omega), ?_⟩
    rintro _ rfl
    dsimp only [kk_j1]
    refine br_f (by decide) ⟨vp_lt (by omega) (by omega), ?_⟩
    rintro _ rfl
    obtain ⟨c1, c2, c3, c4⟩ := hc
    rw [cq] at c2 c4
    rw [cq, nI_clamp (show t < 2 ^ 31 by omega), rd_nI (by omega)]
    have back := fr_back c2 (by simp)
    have e21 : (kk_wr τ 20 q (σ.1 20 q)).1 21 = τ.1 21 := wr_ne _ _ _ (by decide)
    refine ⟨Or.inr rfl, h1 _ _ ⟨okc_add hq ho c1, frL_tr back (frL_wr (by simp)), fun l hl hl2 => ?_, fun l hl => ?_⟩ (if_pos rfl)⟩
    · rw [wr_at, upd_if]
      by_cases e : l = t
      · rw [if_pos e, if_pos e]
      · rw [if_neg e, if_neg e, e21]
        exact c3 l hl (by unfold Sno; rw [hl2, decide_eq_false e]; rfl)
    · have e : l ≠ t := fun z => by
        rw [z] at hl
        rw [hl ht] at hs; cases hs
      rw [wr_at, upd_ne _ _ e, e21, c4 l (fun z => by unfold Sno; rw [hl z]; rfl), wr_ne _ _ _ (by decide)]
  · refine ⟨vp_lt (by omega) (by omega), ?_⟩
    rintro _ rfl
    dsimp only [kk_j1]
    rw [cq] at hτ
    rw [cq, rd_nI (by omega)]
    refine br_t rfl ⟨Or.inl rfl, h0 (fun f hf e => hne ?_) _ (fr_back hτ (by simp))⟩
    have := okc_del ht hs hf
    rw [e] at this
    exact ⟨f, this⟩
theorem sc_complete (W : Wf n m a b) : ∀ (F d : Nat) (O : Nat → Nat → Bool) (S : Nat → Bool) (σ : kk_St) (Q : Int32 → kk_St → Prop), RN n m a b σ → OP m O σ → fb_ct S m < F → d + fb_ct S m ≤ 20 → (∀ f τ, cmpS m a b O S σ f τ → Q 1 τ) → (¬ exc m a b (LO O) S → ∀ τ, frL [] σ τ → Q 0 τ) → f_X7_complete F (mk S m) (nI d) σ Q
  | 0, _, _, _, _, _, _, _, h, _, _, _ => absurd h (Nat.not_lt_zero _)
  | F + 1, d, O, S, σ, Q, N, H, hF, hd, h1, h0 => by
    have hm := W.2.2.1
    unfold f_X7_complete
    constructor
    · intro hS
      obtain ⟨t0, ht0, hs0⟩ : ∃ t, t < m ∧ S t = true := by
        rcases fst_ex S m with ⟨t, x1, x2, _⟩ | x
        · exact ⟨t, x1, x2⟩
        · exact absurd ((mk_eq0 (by omega)).mpr x) hS
      have pos := Sno_lt ht0 hs0
      refine sc_tightest N W H hS (fun t ht hs => ?_) (fun ⟨l, hl, hs, hn⟩ => ?_)
      · dsimp only [kk_j0]
        refine br_f (nI_ge (a := d) (b := 20) (by omega) (by omega)) (br_f (nI_ne_m1 (by omega)) ?_)
        refine sc_hopeless N W H (fun hx => br_f (by decide) (h0 hx σ frL_rf)) (br_t rfl ?_)
        rintro _ rfl
        have eS : mk S m &&& (((1 : Int32) <<< (nI t &&& 31)) ^^^ (-1 : Int32)) = mk (Sno S t) m := mk_clr ht (by omega)
        rw [eS]
        have lt := Sno_lt ht hs
        refine lf_2_0 9 (by omega) (fun k τ => frL [] σ τ ∧ ∀ f, okc m a b (LO O) S f → k ≤ f t) (Nat.zero_le _) ⟨frL_rf, fun _ _ => Nat.zero_le _⟩ ?_ ?_
        · rintro rec k τ hk ⟨fr, no⟩ hrec
          have Nk := RN_fr N fr (by simp)
          have Hk : OP m O τ := fun q hq => by rw [fr.1 20 (by simp)]; exact H q hq
          refine br_f (nI_ge (a := k) (b := 9) hk (by omega)) ⟨vp_lt (by omega) (by omega), ?_⟩
          rw [rd_nI (by omega), Hk k hk, z_bit0 _ (by omega), mk_bt _ _ (by omega)]
          dsimp only [kk_j1, kk_j0]
          have skip : (∀ f, okc m a b (LO O) S f → f t ≠ k) → ∀ τ', frL [] σ τ' → rec (nI k + 1) τ' := fun h τ' f' => hrec _ ⟨f', fun f hf => by
            have := no f hf
            have := h f hf
            omega⟩
          constructor
          · intro z
            have z : O k t = false := by simpa [ht] using z
            refine br_t rfl (skip (fun f hf e => ?_) τ fr)
            have := hf.1 t ht hs
            simp only [LO, Bool.and_eq_true, e, z] at this
            cases this.2
          · intro z
            have z : O k t = true := by simpa [ht] using z
            refine sc_hasTwin W Hk hk (fun ⟨q', hq', tw⟩ => jn_t (by decide) (br_t rfl (skip (fun f hf e => ?_) τ fr))) (jn_f rfl (br_f (by decide) ?_))
            · have := no _ (okc_swc (q := k) (q' := q') hf (fun l hl hs' => by
                simp only [LO]
                rw [tw l hl hs', decide_eq_true hk, decide_eq_true (show q' < 9 by omega)]))
              unfold swc at this
              rw [if_pos e] at this
              omega
            · rw [nI_1]
              refine sc_with W Nk Hk ht hk hs z (fun σ' Q' N' H' g1 g0 => sc_complete W F (d + 1) _ _ σ' Q' N' H' (by omega) (by omega) g1 g0) (fun f τ' hc _ => br_f (by decide) ?_) (fun hx τ' hτ' => br_t rfl (skip hx τ' (frL_tr fr hτ')))
              obtain ⟨c1, c2, c3, c4⟩ := hc
              refine h1 f τ' ⟨c1, frL_tr (frL_mono fr (by simp)) c2, c3, fun l hl => ?_⟩
              rw [c4 l hl, fr.1 21 (by simp)]
        · rintro rec τ ⟨fr, no⟩
          refine br_t (nI_le (a := 9) (b := 9) (Nat.le_refl _) (by omega)) (h0 (fun ⟨f, hf⟩ => ?_) τ fr)
          have := no f hf
          have g := hf.1 t ht hs
          simp only [LO, Bool.and_eq_true, decide_eq_true_eq] at g
          omega
      · dsimp only [kk_j0]
        refine br_f (nI_ge (a := d) (b := 20) (by omega) (by omega)) (br_t rfl (h0 (fun ⟨f, hf⟩ => ?_) σ frL_rf))
        have g := hf.1 l hl hs
        simp only [LO, Bool.and_eq_true, decide_eq_true_eq] at g
        rw [hn _ g.1] at g
        cases g.2
    · intro hS
      have z := (mk_eq0 (by omega)).mp hS
      exact h1 (fun _ => 0) σ ⟨⟨fun l hl hs => (by rw [z l hl] at hs; cases hs), fun i _ hi _ h _ _ => (by rw [z i hi] at h; cases h)⟩, frL_rf, fun l hl hs => (by rw [z l hl] at hs; cases hs), fun _ _ => rfl⟩
end
