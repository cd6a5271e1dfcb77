/-! one turn more, and all -/
section
variable {n m : Nat} {a b : Nat → Nat} {σ : kk_St} {S X : Nat → Bool}
theorem anyb_s (P : Nat → Bool) (k : Nat) : anyb P (k + 1) = (anyb P k || P k) := rfl
theorem sc_advance (N : RN n m a b σ) (W : Wf n m a b) (hm : m ≤ 6) (H : SN 28 S σ) (H' : SN 30 X σ) (T : MT m a b σ) {k : Nat} (hk : k ≤ 4) (hK : σ.1 10 5 = nI k) (hX : ∀ c, c < 4096 → X c = true → c < 4 ^ m) {M : Nat} (hM : M = 4096) {Q : Int32 → kk_St → Prop} (h : ∀ τ S' X', frL [28, 29, 30] σ τ → SN 28 S' τ → SN 30 X' τ → MKD S noB S' X' (fun d => ∃ c, c < 4096 ∧ X c = true ∧ suc m a b k c d) → Q (bI (anyb X M)) τ) : f_X9_advance σ Q := by
  have p4 := p4_le hm
  unfold f_X9_advance
  rintro _ rfl
  have e29 : ∀ w, w < 128 → (kk_wrF σ 29 (va_cpy (σ.1 30) (σ.1 29) 0 0 (Int32.toNatClampNeg (128 : Int32)))).1 29 w = σ.1 30 w := by
    intro w hw
    show (if (29 : Nat) = 29 then va_cpy (σ.1 30) (σ.1 29) 0 0 (128 : Int32).toNatClampNeg else σ.1 29) w = _
    rw [if_pos rfl, show (128 : Int32).toNatClampNeg = 128 from rfl]
    unfold va_cpy
    rw [if_pos ⟨Nat.zero_le _, by omega⟩, Nat.zero_add, Nat.sub_zero]
  have f29 : frL [29] σ (kk_wrF σ 29 (va_cpy (σ.1 30) (σ.1 29) 0 0 (Int32.toNatClampNeg (128 : Int32)))) := ⟨fun q hq => by
    show (if q = 29 then _ else σ.1 q) = _
    rw [if_neg (fun z => hq (by simp [z]))], rfl⟩
  generalize kk_wrF σ 29 (va_cpy (σ.1 30) (σ.1 29) 0 0 (Int32.toNatClampNeg (128 : Int32))) = σ1 at e29 f29 ⊢
  refine sc_fill (by omega) (fun σ2 h1 _ fr => ?_)
  have f2 : frL [28, 29, 30] σ σ2 := frL_tr (frL_mono f29 (by simp)) (frL_mono fr (by simp))
  have H2 : SN 28 S σ2 := fun w hw => by rw [fr.1 28 (by simp), f29.1 28 (by simp)]; exact H w hw
  have H3 : SN 30 noB σ2 := fun w hw => by
    rw [h1 w hw, ← mk_0 32]; rfl
  have E2 : SN 29 X σ2 := fun w hw => by rw [fr.1 29 (by simp), e29 w hw]; exact H' w hw
  obtain ⟨G, hG⟩ : ∃ G, G = 128 := ⟨_, rfl⟩
  have eG : (128 : Int32) = nI G := by rw [hG]; rfl
  rw [eG]
  refine lf_3_1 G (by omega) (fun w v τ => v = bI (anyb X (32 * w)) ∧ frL [28, 30] σ2 τ ∧ ∃ S' X', SN 28 S' τ ∧ SN 30 X' τ ∧ MKD S noB S' X' (fun d => ∃ c, c < 32 * w ∧ X c = true ∧ suc m a b k c d)) (Nat.zero_le _) ⟨rfl, frL_rf, S, noB, H2, H3, MKD_rf (fun d ⟨c, hc, _⟩ => absurd hc (by omega))⟩ ?_ ?_
  · rintro rec6 w _ τ hw ⟨rfl, f3, S1, X1, A1, B1, D1⟩ hrec6
    have hw128 : w < 128 := by omega
    refine br_f (nI_ge (a := w) (b := G) hw (by omega)) ?_
    dsimp only [kk_j2]
    refine lf_3_1 32 (by omega) (fun j v ρ => v = bI (anyb X (32 * w + j)) ∧ frL [28, 30] σ2 ρ ∧ ∃ S' X', SN 28 S' ρ ∧ SN 30 X' ρ ∧ MKD S noB S' X' (fun d => ∃ c, c < 32 * w + j ∧ X c = true ∧ suc m a b k c d)) (Nat.zero_le _) ⟨rfl, f3, S1, X1, A1, B1, D1⟩ ?_ ?_
    · rintro rec13 j _ ρ hj ⟨rfl, f4, S2, X2, A2, B2, D2⟩ hrec13
      refine br_f (nI_ge (a := j) (b := 32) hj (by omega)) ⟨vp_lt (by omega) (by omega), ?_⟩
      rw [rd_nI (by omega), f4.1 29 (by simp), E2 w hw128]
      constructor
      · intro z
        have z := (mk_eq0 (by omega)).mp z
        have nx : ∀ i, 32 * w ≤ i → i < 32 * w + 32 → X i = false := fun i h1 h2 => by
          have := z (i - 32 * w) (by omega)
          rw [show 32 * w + (i - 32 * w) = i by omega] at this
          exact this
        refine hrec6 _ _ ⟨?_, f4, S2, X2, A2, B2, MKD_cong D2 (fun d _ => ⟨fun ⟨c, c1, c2, c3⟩ => ⟨c, by omega, c2, c3⟩, fun ⟨c, c1, c2, c3⟩ => ⟨c, ?_, c2, c3⟩⟩)⟩
        · congr 1
          rw [Bool.eq_iff_iff, anyb_iff, anyb_iff]
          constructor
          · rintro ⟨i, i1, i2⟩
            exact ⟨i, by omega, i2⟩
          · rintro ⟨i, i1, i2⟩
            refine ⟨i, ?_, i2⟩
            rcases Nat.lt_or_ge i (32 * w) with y | y
            · omega
            · rw [nx i y (by omega)] at i2; cases i2
        · rcases Nat.lt_or_ge c (32 * w) with y | y
          · omega
          · rw [nx c y (by omega)] at c2; cases c2
      · intro _
        refine ⟨vp_lt (by omega) (by omega), ?_⟩
        rw [z_bit0 _ (by omega), mk_bt _ _ (by omega), decide_eq_true hj, Bool.true_and]
        have as : anyb X (32 * w + (j + 1)) = (anyb X (32 * w + j) || X (32 * w + j)) := rfl
        constructor
        · intro z
          refine hrec13 _ _ ⟨by rw [as, z, Bool.or_false], f4, S2, X2, A2, B2, MKD_cong D2 (fun d _ => ⟨fun ⟨c, c1, c2, c3⟩ => ⟨c, by omega, c2, c3⟩, fun ⟨c, c1, c2, c3⟩ => ⟨c, ?_, c2, c3⟩⟩)⟩
          by_cases e : c = 32 * w + j
          · rw [e, z] at c2; cases c2
          · omega
        · intro z
          have z : X (32 * w + j) = true := by simpa using z
          have ec : (nI w <<< ((5 : Int32) &&& 31)) ||| nI j = nI (32 * w + j) := by
            have e1 : nI w <<< ((5 : Int32) &&& 31) = nI (w * 2 ^ 5) := z_shl (N := w) (k := 5) (by omega)
            rw [e1, Nat.mul_comm, fa_or_sum w (show j < 2 ^ 5 by omega)]
          rw [ec]
          have fs : frL [28, 29, 30] σ ρ := frL_tr f2 (frL_mono f4 (by simp))
          have cl := hX (32 * w + j) (by omega) z
          refine sc_turnEach (RN_fr N fs (by simp)) W hm A2 B2 (fun l hl => by rw [fs.1 27 (by simp)]; exact T l hl) hk (by rw [fs.1 10 (by simp)]; exact hK) cl (fun ρ' S3 X3 f5 A3 B3 D3 => hrec13 _ _ ⟨by rw [as, z, Bool.or_true]; rfl, frL_tr f4 f5, S3, X3, A3, B3, MKD_tr D2 D3 (fun d _ => ⟨fun ⟨c, c1, c2, c3⟩ => ?_, fun y => ?_⟩)⟩)
          · by_cases e : c = 32 * w + j
            · rw [e] at c3; exact Or.inr c3
            · exact Or.inl ⟨c, by omega, c2, c3⟩
          · rcases y with ⟨c, c1, c2, c3⟩ | y
            · exact ⟨c, by omega, c2, c3⟩
            · exact ⟨32 * w + j, by omega, z, y⟩
    · rintro rec13 _ ρ ⟨rfl, f4, S2, X2, A2, B2, D2⟩
      exact br_t (nI_le (a := 32) (b := 32) (Nat.le_refl _) (by omega)) (hrec6 _ _ ⟨rfl, f4, S2, X2, A2, B2, D2⟩)
  · rintro rec6 _ τ ⟨rfl, f3, S1, X1, A1, B1, D1⟩
    refine br_t (nI_le (Nat.le_refl _) (by omega)) ⟨bI_01 _, ?_⟩
    have e : 32 * G = M := by omega
    rw [e]
    exact h τ S1 X1 (frL_tr f2 (frL_mono f3 (by simp))) A1 B1 (MKD_cong D1 (fun d _ => by rw [show 32 * G = 4096 by omega]))
/-- all within t turns are seen, and closed but for the last -/
def LVL (m : Nat) (a b : Nat → Nat) (k : Nat) (S0 : Nat → Bool) (c0 t : Nat) (S X : Nat → Bool) : Prop :=
  (∀ d, d < 4096 → (S d = true ↔ S0 d = true ∨ (d < 4 ^ m ∧ rea m a b k t (dgt 4 c0) (dgt 4 d)))) ∧ (∀ d, d < 4096 → X d = true → S d = true ∧ d < 4 ^ m) ∧ ∀ d, d < 4096 → S d = true → X d = false → ∀ e, suc m a b k d e → S e = true
def CLs (m : Nat) (a b : Nat → Nat) (k : Nat) (S0 : Nat → Bool) : Prop := ∀ d, d < 4096 → S0 d = true → ∀ e, suc m a b k d e → S0 e = true
theorem code_eq {c d : Nat} (hc : c < 4 ^ m) (hd : d < 4 ^ m) (h : ∀ l, l < m → dgt 4 c l = dgt 4 d l) : c = d := by
  rw [← dgt_en' hc, ← dgt_en' hd]
  exact en_cong h
/-- a colouring within reach has a code -/
theorem rea_code {k c0 t : Nat} {z : Nat → Nat} (hk : k ≤ 4) (h0 : ∀ l, l < m → dgt 4 c0 l < k) (h : rea m a b k t (dgt 4 c0) z) : en 4 z m < 4 ^ m ∧ ∀ l, l < m → z l = dgt 4 (en 4 z m) l := by
  have zl := rea_bl h h0
  have z4 : ∀ l, l < m → z l < 4 := fun l hl => by have := zl l hl; omega
  exact ⟨en_lt z4, fun l hl => (en_dgt (by omega) z4 l hl).symm⟩
theorem lev_start {k c0 : Nat} {S0 S1 X1 : Nat → Bool} (hm : m ≤ 6) (hc : c0 < 4 ^ m) (hn : S0 c0 = false) (hcl : CLs m a b k S0) (D : MKD S0 noB S1 X1 (fun d => d = c0)) : LVL m a b k S0 c0 0 S1 X1 := by
  have p4 := p4_le hm
  refine ⟨fun d hd => ?_, fun d hd hx => ?_, fun d hd hs hx e he => ?_⟩
  · rw [(D d hd).1]
    constructor
    · rintro (z | z)
      · exact Or.inl z
      · rw [z]; exact Or.inr ⟨hc, fun _ _ => rfl⟩
    · rintro (z | ⟨z1, z2⟩)
      · exact Or.inl z
      · exact Or.inr (code_eq z1 hc (fun l hl => (z2 l hl).symm))
  · rcases (D d hd).2.mp hx with z | ⟨z1, z2⟩
    · cases z
    · exact ⟨(D d hd).1.mpr (Or.inr z1), by rw [z1]; exact hc⟩
  · rcases (D d hd).1.mp hs with z | z
    · exact (D e (Nat.lt_of_lt_of_le he.1 p4)).1.mpr (Or.inl (hcl d hd z e he))
    · have := (D d hd).2.mpr (Or.inr ⟨z, by rw [z]; exact hn⟩)
      rw [this] at hx; cases hx
theorem lev_step {k c0 t : Nat} {S0 S X S' X' : Nat → Bool} (hm : m ≤ 6) (hk : k ≤ 4) (h0 : ∀ l, l < m → dgt 4 c0 l < k) (hcl : CLs m a b k S0) (L : LVL m a b k S0 c0 t S X) (D : MKD S noB S' X' (fun d => ∃ c, c < 4096 ∧ X c = true ∧ suc m a b k c d)) : LVL m a b k S0 c0 (t + 1) S' X' := by
  have p4 := p4_le hm
  obtain ⟨l1, l2, l3⟩ := L
  refine ⟨fun d hd => ?_, fun d hd hx => ?_, fun d hd hs hx e he => ?_⟩
  · rw [(D d hd).1]
    constructor
    · rintro (z | ⟨c, c1, c2, c3⟩)
      · rcases (l1 d hd).mp z with y | ⟨y1, y2⟩
        · exact Or.inl y
        · exact Or.inr ⟨y1, Or.inl y2⟩
      · rcases (l1 c c1).mp (l2 c c1 c2).1 with y | ⟨y1, y2⟩
        · exact Or.inl (hcl c c1 y d c3)
        · exact Or.inr ⟨c3.1, Or.inr ⟨dgt 4 c, y2, c3.2⟩⟩
    · rintro (z | ⟨z1, z2⟩)
      · exact Or.inl ((l1 d hd).mpr (Or.inl z))
      · rcases z2 with z2 | ⟨z, z2, z3⟩
        · exact Or.inl ((l1 d hd).mpr (Or.inr ⟨z1, z2⟩))
        · obtain ⟨e1, e2⟩ := rea_code hk h0 z2
          have eS : S (en 4 z m) = true := (l1 _ (Nat.lt_of_lt_of_le e1 p4)).mpr (Or.inr ⟨e1, rea_cong (fun _ _ => rfl) e2 z2⟩)
          have es : suc m a b k (en 4 z m) d := ⟨z1, tsp_cong e2 (fun _ _ => rfl) z3⟩
          cases y : X (en 4 z m) with
          | true => exact Or.inr ⟨_, Nat.lt_of_lt_of_le e1 p4, y, es⟩
          | false => exact Or.inl (l3 _ (Nat.lt_of_lt_of_le e1 p4) eS y d es)
  · rcases (D d hd).2.mp hx with z | ⟨⟨c, c1, c2, c3⟩, z2⟩
    · cases z
    · exact ⟨(D d hd).1.mpr (Or.inr ⟨c, c1, c2, c3⟩), c3.1⟩
  · have hel := Nat.lt_of_lt_of_le he.1 p4
    have sd : S d = true := by
      cases y : S d with
      | true => rfl
      | false =>
        rcases (D d hd).1.mp hs with z | z
        · rw [y] at z; cases z
        · have := (D d hd).2.mpr (Or.inr ⟨z, y⟩)
          rw [this] at hx; cases hx
    cases y : X d with
    | true => exact (D e hel).1.mpr (Or.inr ⟨d, hd, y, he⟩)
    | false => exact (D e hel).1.mpr (Or.inl (l3 d hd sd y e he))
theorem lev_end {k c0 t : Nat} {S0 S X : Nat → Bool} (hm : m ≤ 6) (hk : k ≤ 4) (hc : c0 < 4 ^ m) (h0 : ∀ l, l < m → dgt 4 c0 l < k) (L : LVL m a b k S0 c0 t S X) (hX : ∀ d, d < 4096 → X d = false) : ∀ s d, d < 4 ^ m → rea m a b k s (dgt 4 c0) (dgt 4 d) → S d = true := by
  have p4 := p4_le hm
  obtain ⟨l1, l2, l3⟩ := L
  intro s
  induction s with
  | zero => exact fun d hd h => (l1 d (Nat.lt_of_lt_of_le hd p4)).mpr (Or.inr ⟨hd, rea_mono (Nat.zero_le t) h⟩)
  | succ s ih =>
    intro d hd h
    rcases h with h | ⟨z, h1, h2⟩
    · exact ih d hd h
    · obtain ⟨e1, e2⟩ := rea_code hk h0 h1
      have e4 := Nat.lt_of_lt_of_le e1 p4
      exact l3 _ e4 (ih _ e1 (rea_cong (fun _ _ => rfl) e2 h1)) (hX _ e4) d ⟨hd, tsp_cong e2 (fun _ _ => rfl) h2⟩
/-- the room: one more code each time -/
theorem lev_ct {t M : Nat} {S X S' X' : Nat → Bool} {D : Nat → Prop} (hM : M = 4096) (hx : anyb X M = true) (h : t + (if anyb X M then 1 else 0) ≤ fb_ct S M) (hD : MKD S noB S' X' D) : t + 1 + (if anyb X' M then 1 else 0) ≤ fb_ct S' M := by
  rw [hx, if_pos rfl] at h
  have sub : ∀ d, d < M → S d = true → S' d = true := fun d hd hs => (hD d (by omega)).1.mpr (Or.inl hs)
  cases z : anyb X' M with
  | false =>
    have := fb_ct_sub sub
    simp only [Bool.false_eq_true, if_false]
    omega
  | true =>
    obtain ⟨d, d1, d2⟩ := anyb_iff.mp z
    rcases (hD d (by omega)).2.mp d2 with y | ⟨y1, y2⟩
    · cases y
    · have := ct_strict (x := d) sub d1 y2 ((hD d (by omega)).1.mpr (Or.inr y1))
      rw [if_pos rfl]
      omega
end
