/-! kinds: all colourings placed -/
def prp (m : Nat) (a b : Nat → Nat) (i : Nat) (x : Nat → Nat) : Prop := ∀ u v, u < i → v < i → mts a b u v = true → x u ≠ x v
/-- what stands for the kinds met so far -/
def KND (m : Nat) (a b : Nat → Nat) (k : Nat) (S Rp : Nat → Bool) : Prop :=
  (∀ d, d < 4096 → (S d = true ↔ ∃ r, r < 4096 ∧ Rp r = true ∧ d < 4 ^ m ∧ RF m a b k (dgt 4 r) (dgt 4 d))) ∧ (∀ r r', r < 4096 → r' < 4096 → Rp r = true → Rp r' = true → RF m a b k (dgt 4 r) (dgt 4 r') → r = r') ∧ ∀ r, r < 4096 → Rp r = true → r < 4 ^ m ∧ (∀ l, l < m → dgt 4 r l < k) ∧ prp m a b m (dgt 4 r)
section
variable {n m : Nat} {a b : Nat → Nat} {σ : kk_St}
theorem KND_cl {k : Nat} {S Rp : Nat → Bool} (hm : m ≤ 6) (h : KND m a b k S Rp) : CLs m a b k S := fun d hd hs e he => by
  have p4 := p4_le hm
  obtain ⟨r, r1, r2, r3, r4⟩ := (h.1 d hd).mp hs
  exact (h.1 e (Nat.lt_of_lt_of_le he.1 p4)).mpr ⟨r, r1, r2, he.1, RF_tr r4 (RF_st he.2)⟩
theorem KND_new {k c M : Nat} {S Rp S' : Nat → Bool} (hM : M = 4096) (hm : m ≤ 6) (h : KND m a b k S Rp) (hc : c < 4 ^ m) (hb : ∀ l, l < m → dgt 4 c l < k) (hp : prp m a b m (dgt 4 c)) (hn : S c = false) (hS : ∀ d, d < 4096 → (S' d = true ↔ S d = true ∨ (d < 4 ^ m ∧ RF m a b k (dgt 4 c) (dgt 4 d)))) : KND m a b k S' (ads Rp c) ∧ fb_ct (ads Rp c) M = fb_ct Rp M + 1 := by
  have p4 := p4_le hm
  have c4 := Nat.lt_of_lt_of_le hc p4
  have rc : Rp c = false := by
    cases z : Rp c with
    | false => rfl
    | true =>
      have := (h.1 c c4).mpr ⟨c, c4, z, hc, RF_rf⟩
      rw [this] at hn; cases hn
  have ad : ∀ r, ads Rp c r = true ↔ Rp r = true ∨ r = c := fun r => by unfold ads; simp
  refine ⟨⟨fun d hd => ?_, fun r r' hr hr' h1 h2 hrf => ?_, fun r hr h1 => ?_⟩, ct_ads rc (by omega)⟩
  · rw [hS d hd, h.1 d hd]
    constructor
    · rintro (⟨r, r1, r2, r3, r4⟩ | ⟨z1, z2⟩)
      · exact ⟨r, r1, (ad r).mpr (Or.inl r2), r3, r4⟩
      · exact ⟨c, c4, (ad c).mpr (Or.inr rfl), z1, z2⟩
    · rintro ⟨r, r1, r2, r3, r4⟩
      rcases (ad r).mp r2 with z | z
      · exact Or.inl ⟨r, r1, z, r3, r4⟩
      · rw [z] at r4; exact Or.inr ⟨r3, r4⟩
  · rcases (ad r).mp h1 with z | z
    · rcases (ad r').mp h2 with y | y
      · exact h.2.1 r r' hr hr' z y hrf
      · exfalso
        rw [y] at hrf
        have := (h.1 c c4).mpr ⟨r, hr, z, hc, hrf⟩
        rw [this] at hn; cases hn
    · rcases (ad r').mp h2 with y | y
      · exfalso
        rw [z] at hrf
        have := (h.1 c c4).mpr ⟨r', hr', y, hc, RF_sy hrf⟩
        rw [this] at hn; cases hn
      · rw [z, y]
  · rcases (ad r).mp h1 with z | z
    · exact h.2.2 r hr z
    · rw [z]; exact ⟨hc, hb, hp⟩
theorem m4_before {i : Nat} (hm : m ≤ 6) (hi : i ≤ m) (F : Nat → Bool) : m4 m F &&& (((1 : Int32) <<< (nI (2 * i) &&& 31)) - 1) = m4 m (fun l => F l && decide (l < i)) := by
  rw [mk_ones (by omega)]
  have e : mk (fun _ => true) (2 * i) = mk (fun j => decide (j < 2 * i)) (2 * m) := by
    rw [← mk_grow (n := 2 * i) (by omega) (fun j h _ => decide_eq_false (by omega))]
    exact mk_cong (fun j hj => (decide_eq_true hj).symm)
  rw [e]
  unfold m4
  rw [mk_and]
  refine mk_cong (fun j _ => ?_)
  rw [Bool.and_assoc]
  congr 2
  by_cases z : j < 2 * i
  · rw [decide_eq_true z, decide_eq_true (show j / 2 < i by omega)]
  · rw [decide_eq_false z, decide_eq_false (show ¬ j / 2 < i by omega)]
theorem sc_place (W : Wf n m a b) (hm : m ≤ 6) {k M : Nat} (hk : k ≤ 4) (hM : M = 4096) : ∀ (F q : Nat) (x : Nat → Nat) (σ : kk_St) (S Rp : Nat → Bool) (Q : kk_St → Prop), q ≤ m → q < F → RN n m a b σ → σ.1 10 5 = nI k → MT m a b σ → SN 28 S σ → SN 30 noB σ → KND m a b k S Rp → σ.1 10 6 = nI (fb_ct Rp M) → (∀ l, l < m - q → x l < k) → prp m a b (m - q) x → (∀ τ S' Rp', frL [10, 28, 29, 30] σ τ → τ.1 10 5 = nI k → SN 28 S' τ → SN 30 noB τ → KND m a b k S' Rp' → τ.1 10 6 = nI (fb_ct Rp' M) → (∀ d, d < 4096 → S d = true → S' d = true) → (∀ y, (∀ l, l < m - q → y l = x l) → (∀ l, l < m → y l < k) → prp m a b m y → S' (en 4 y m) = true) → Q τ) → f_X9_place F (nI (m - q)) (nI (en 4 x (m - q))) σ Q
  | 0, _, _, _, _, _, _, _, hF, _, _, _, _, _, _, _, _, _, _ => absurd hF (Nat.not_lt_zero _)
  | F + 1, 0, x, σ, S, Rp, Q, hq, hF, N, K5, T, A1, B1, D, K6, hx, hp, hQ => by
    have p4 := p4_le hm
    rw [Nat.sub_zero] at hx hp hQ ⊢
    have x4 : ∀ l, l < m → x l < 4 := fun l hl => by have := hx l hl; omega
    have cx := en_lt x4
    have dx := en_dgt (by omega) x4
    have c4 := Nat.lt_of_lt_of_le cx p4
    have ext : ∀ y : Nat → Nat, (∀ l, l < m → y l = x l) → en 4 y m = en 4 x m := fun y h => en_cong h
    unfold f_X9_place
    dsimp only [kk_j0, kk_j1]
    rw [N.2.1]
    refine br_t (nI_le (Nat.le_refl _) (by omega)) ?_
    refine sc_isSeen A1 c4 ?_
    refine bI_nz (fun z => ?_) (fun z => ?_)
    · exact hQ σ S Rp frL_rf K5 A1 B1 D K6 (fun _ _ h => h) (fun y h1 _ _ => by rw [ext y h1]; exact z)
    · rintro _ rfl
      have f1 : frL [10, 28, 29, 30] σ (kk_wr σ 10 6 (σ.1 10 6 + 1)) := frL_wr (by simp)
      have w28 : SN 28 S (kk_wr σ 10 6 (σ.1 10 6 + 1)) := fun w hw => by rw [wr_ne _ _ _ (by decide)]; exact A1 w hw
      have w30 : SN 30 noB (kk_wr σ 10 6 (σ.1 10 6 + 1)) := fun w hw => by rw [wr_ne _ _ _ (by decide)]; exact B1 w hw
      refine sc_mark w28 w30 c4 (fun τ1 S1 X1 f2 A2 B2 D1 => ?_)
      have f12 : frL [10, 28, 29, 30] σ τ1 := frL_tr f1 (frL_mono f2 (by simp))
      have k5 : τ1.1 10 5 = nI k := by rw [f2.1 10 (by simp), wr_at, upd_ne _ _ (by decide)]; exact K5
      have k6 : τ1.1 10 6 = nI (fb_ct Rp M + 1) := by rw [f2.1 10 (by simp), wr_at, upd_at, K6, nI_1]
      have bl : ∀ l, l < m → dgt 4 (en 4 x m) l < k := fun l hl => by rw [dx l hl]; exact hx l hl
      have pr : prp m a b m (dgt 4 (en 4 x m)) := fun u v hu hv h => by rw [dx u hu, dx v hv]; exact hp u v hu hv h
      refine sc_spreadKind (RN_fr N f12 (by simp)) W hm hk k5 (fun l hl => by rw [f12.1 27 (by simp)]; exact T l hl) cx bl (KND_cl hm D) z A2 B2 D1 (fun τ2 S2 f3 A3 B3 hS => ?_)
      obtain ⟨D2, ct⟩ := KND_new hM hm D cx bl pr z hS
      refine hQ τ2 S2 _ (frL_tr f12 (frL_mono f3 (by simp))) (by rw [f3.1 10 (by simp)]; exact k5) A3 B3 D2 (by rw [f3.1 10 (by simp), k6, ct]) (fun d hd hs => (hS d hd).mpr (Or.inl hs)) (fun y h1 _ _ => ?_)
      rw [ext y h1]
      exact (hS _ c4).mpr (Or.inr ⟨cx, RF_rf⟩)
  | F + 1, q + 1, x, σ, S, Rp, Q, hq, hF, N, K5, T, A1, B1, D, K6, hx, hp, hQ => by
    have p4 := p4_le hm
    obtain ⟨i, hi⟩ : ∃ i, m - (q + 1) = i := ⟨_, rfl⟩
    have ei : m - q = i + 1 := by omega
    have im : i < m := by omega
    rw [hi] at hx hp hQ ⊢
    have x4 : ∀ l, l < i → x l < 4 := fun l hl => by have := hx l hl; omega
    have cx := en_lt x4
    have dx := en_dgt (by omega) x4
    have cm : en 4 x i < 4 ^ m := Nat.lt_of_lt_of_le cx (Nat.pow_le_pow_right (by omega) (by omega))
    unfold f_X9_place
    dsimp only [kk_j0]
    rw [N.2.1]
    refine br_f (nI_ge im (by omega)) (br_t (nI_lt (a := i) (b := 6) (by omega) (by omega)) ?_)
    rintro _ rfl
    rw [show (2 : Int32) = nI 2 from rfl, z_mul]
    refine lf_2_0 k (by omega) (fun v τ => frL [10, 28, 29, 30] σ τ ∧ τ.1 10 5 = nI k ∧ ∃ S' Rp', SN 28 S' τ ∧ SN 30 noB τ ∧ KND m a b k S' Rp' ∧ τ.1 10 6 = nI (fb_ct Rp' M) ∧ (∀ d, d < 4096 → S d = true → S' d = true) ∧ ∀ y, (∀ l, l < i → y l = x l) → (∀ l, l < m → y l < k) → prp m a b m y → y i < v → S' (en 4 y m) = true) (Nat.zero_le _) ⟨frL_rf, K5, S, Rp, A1, B1, D, K6, fun _ _ h => h, fun _ _ _ _ h => absurd h (Nat.not_lt_zero _)⟩ ?_ ?_
    · rintro rec v τ hv ⟨fr, k5, S1, R1, A2, B2, D2, k6, sub, cov⟩ hrec
      have Nk := RN_fr N fr (by simp)
      rw [k5]
      refine br_f (nI_ge hv (by omega)) ?_
      refine sc_linesWith Nk hm cm (by omega) ⟨vp_lt (by omega) (by omega), ?_⟩
      rw [rd_nI (by omega), fr.1 27 (by simp), T i im, m4_before hm (by omega), m4_and, m4_eq0 hm]
      dsimp only [kk_j1]
      have ck : (∀ l, l < m → ((decide (dgt 4 (en 4 x i) l = v) && decide (l < i)) && mts a b i l) = false) ↔ ∀ l, l < i → mts a b i l = true → x l ≠ v := by
        constructor
        · intro h l hl hmt e
          have := h l (by omega)
          rw [dx l hl, decide_eq_true e, decide_eq_true hl, hmt] at this
          cases this
        · intro h l hl
          by_cases e : l < i
          · rw [dx l e]
            cases y : mts a b i l with
            | false => simp
            | true => rw [decide_eq_false (h l e y)]; rfl
          · rw [decide_eq_false e]; simp
      constructor
      · intro z
        have z := mt ck.mpr z
        refine hrec _ ⟨fr, k5, S1, R1, A2, B2, D2, k6, sub, fun y h1 h2 h3 h4 => ?_⟩
        by_cases e : y i = v
        · refine absurd (fun l hl hmt e2 => ?_) z
          exact h3 i l im (by omega) hmt (by rw [e, h1 l hl, e2])
        · exact cov y h1 h2 h3 (by omega)
      · intro z
        have z := ck.mp z
        rw [nI_1 i, or4 (by omega) cx]
        have ee : en 4 x i + v * 4 ^ i = en 4 (ext1 x i v) (i + 1) := by
          show _ = en 4 (ext1 x i v) i + ext1 x i v i * 4 ^ i
          rw [x1_at, en_cong (x := ext1 x i v) (y := x) (fun l hl => x1_ne _ _ (by omega))]
        rw [ee]
        have rc := sc_place W hm hk hM F q (ext1 x i v) τ S1 R1
        rw [ei] at rc
        have hrec2 := hrec
        refine rc _ (by omega) (by omega) Nk k5 (fun l hl => by rw [fr.1 27 (by simp)]; exact T l hl) A2 B2 D2 k6 (fun l hl => ?_) (fun u w hu hw hmt => ?_) (fun τ2 S2 R2 f2 k5' A3 B3 D3 k6' sub' cov' => hrec2 _ ⟨frL_tr fr f2, k5', S2, R2, A3, B3, D3, k6', fun d hd hs => sub' d hd (sub d hd hs), fun y h1 h2 h3 h4 => ?_⟩)
        · by_cases e : l = i
          · rw [e, x1_at]; exact hv
          · rw [x1_ne _ _ e]; exact hx l (by omega)
        · have ne := (mts_iff.mp hmt).1
          by_cases e : u = i
          · by_cases e2 : w = i
            · exact absurd (e.trans e2.symm) ne
            · rw [e, x1_at, x1_ne _ _ e2]
              rw [e] at hmt
              exact fun h => z w (by omega) hmt h.symm
          · by_cases e2 : w = i
            · rw [e2, x1_at, x1_ne _ _ e]
              rw [e2, mts_comm] at hmt
              exact z u (by omega) hmt
            · rw [x1_ne _ _ e, x1_ne _ _ e2]; exact hp u w (by omega) (by omega) hmt
        · by_cases e : y i = v
          · refine cov' y (fun l hl => ?_) h2 h3
            by_cases e2 : l = i
            · rw [e2, x1_at]; exact e
            · rw [x1_ne _ _ e2]; exact h1 l (by omega)
          · refine sub' _ (Nat.lt_of_lt_of_le (en_lt (fun l hl => by have := h2 l hl; omega)) p4) (cov y h1 h2 h3 (by omega))
    · rintro rec τ ⟨fr, k5, S1, R1, A2, B2, D2, k6, sub, cov⟩
      rw [k5]
      exact br_t (nI_le (Nat.le_refl _) (by omega)) (hQ τ S1 R1 fr k5 A2 B2 D2 k6 sub (fun y h1 h2 h3 => cov y h1 h2 h3 (h2 i im)))
/-- a system that stands for all kinds -/
def REP (m : Nat) (a b : Nat → Nat) (k B M : Nat) (Rp : Nat → Bool) : Prop := (∀ r r', r < M → r' < M → Rp r = true → Rp r' = true → RF m a b k (dgt B r) (dgt B r') → r = r') ∧ (∀ r, r < M → Rp r = true → (∀ l, l < m → dgt B r l < k) ∧ prp m a b m (dgt B r)) ∧ ∀ y, (∀ l, l < m → y l < k) → prp m a b m y → ∃ r, r < M ∧ Rp r = true ∧ RF m a b k (dgt B r) y
theorem sc_kinds (N : RN n m a b σ) (W : Wf n m a b) (hm : m ≤ 6) {k M : Nat} (hk : k ≤ 4) (hM : M = 4096) {Q : Int32 → kk_St → Prop} (h : ∀ τ Rp, frL [10, 27, 28, 29, 30] σ τ → REP m a b k 4 M Rp → Q (nI (fb_ct Rp M)) τ) : f_X9_countKinds (nI k) σ Q := by
  have p4 := p4_le hm
  unfold f_X9_countKinds
  refine sc_prepare N hm (fun τ f1 k5 s1 s2 T => ?_)
  rintro _ rfl
  have f2 : frL [10, 27, 28, 29, 30] σ (kk_wr τ 10 6 0) := frL_tr (frL_mono f1 (by simp)) (frL_wr (by simp))
  have D0 : KND m a b k noB noB := ⟨fun d _ => ⟨fun z => (by cases z), fun ⟨r, _, z, _⟩ => (by cases z)⟩, fun _ _ _ _ z => (by cases z), fun _ _ z => (by cases z)⟩
  have g := sc_place W hm hk hM 30 m (fun _ => 0) (kk_wr τ 10 6 0) noB noB
  rw [Nat.sub_self] at g
  have z0 : fb_ct noB M = 0 := fb_ct_zero.mpr (fun _ _ => rfl)
  refine g _ (Nat.le_refl _) (by omega) (RN_fr N f2 (by simp)) (by rw [wr_at, upd_ne _ _ (by decide)]; exact k5) (fun l hl => by rw [wr_ne _ _ _ (by decide)]; exact T l hl) (fun w hw => by rw [wr_ne _ _ _ (by decide)]; exact s1 w hw) (fun w hw => by rw [wr_ne _ _ _ (by decide)]; exact s2 w hw) D0 (by rw [wr_at, upd_at, z0]; rfl) (fun l hl => absurd hl (Nat.not_lt_zero _)) (fun u _ hu => absurd hu (Nat.not_lt_zero _)) (fun τ2 S' Rp' f3 _ _ _ D2 k6 _ cov => ?_)
  rw [k6]
  refine h τ2 Rp' (frL_tr f2 (frL_mono f3 (by simp))) ⟨fun r r' hr hr' => D2.2.1 r r' (by omega) (by omega), fun r hr hx => (D2.2.2 r (by omega) hx).2, fun y h1 h2 => ?_⟩
  have y4 : ∀ l, l < m → y l < 4 := fun l hl => by have := h1 l hl; omega
  have cy := en_lt y4
  have := cov y (fun l hl => absurd hl (Nat.not_lt_zero _)) h1 h2
  obtain ⟨r, r1, r2, _, r4⟩ := (D2.1 _ (Nat.lt_of_lt_of_le cy p4)).mp this
  exact ⟨r, by omega, r2, RF_cong (fun _ _ => rfl) (en_dgt (by omega) y4) r4⟩
end
