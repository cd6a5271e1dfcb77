/-! kinds and turns: the second side's numbers -/
section
variable {n m : Nat} {a b : Nat → Nat} {c : Nat → Int32} {σ : kk_St}
theorem kp_le {k : Nat} (hm : m ≤ 6) (hk : k ≤ 4) : k ^ m ≤ 4096 := Nat.le_trans (Nat.pow_le_pow_left hk m) (p4_le hm)
theorem sm_laysTrial (M : RM n m a b c σ) (W : Wf n m a b) {k d : Nat} (hk : 1 ≤ k) (hk4 : k ≤ 4) (hd : d < 4096) {Q : kk_St → Prop} (h : ∀ τ, frF [18] [] σ τ → (∀ l, l < m → τ.1 18 l = nI (dgt k d l)) → Q τ) : f_X11_laysTrial (nI d) (nI k) σ Q := by
  have hm := W.2.2.1
  unfold f_X11_laysTrial
  have nz : ¬ nI k = 0 := fun z => by have := (nI_ne (j := 0) (by omega) (by omega)).mp z; omega
  have st : nI d = nI (d / k ^ 0) := by rw [Nat.pow_zero, Nat.div_one]
  rw [st]
  refine lf_3_1 m (by omega) (fun l v τ => v = nI (d / k ^ l) ∧ frF [18] [] σ τ ∧ ∀ j, j < l → τ.1 18 j = nI (dgt k d j)) (Nat.zero_le _) ⟨rfl, frF_rf, fun _ h => absurd h (Nat.not_lt_zero _)⟩ ?_ ?_
  · rintro rec l _ τ hl ⟨rfl, fr, i1⟩ hrec
    have Mk := RM_fr M fr (by simp) (by simp)
    have dl : d / k ^ l ≤ d := Nat.div_le_self _ _
    rw [Mk.2.1]
    refine br_f (nI_ge hl (by omega)) ⟨nz, vp_lt (by omega) (by omega), ?_⟩
    rintro _ rfl
    refine ⟨nz, ?_⟩
    rw [pk_rem (by omega) (by omega) (by omega), pk_div (by omega) (by omega) (by omega), nI_clamp (by omega)]
    refine hrec _ _ ⟨by rw [Nat.div_div_eq_div_mul, ← Nat.pow_succ], frF_w fr (by simp) (by decide), fun j hj => ?_⟩
    rw [wr_at, upd_if]
    by_cases e : j = l
    · rw [if_pos e, e]; rfl
    · rw [if_neg e]; exact i1 j (by omega)
  · rintro rec _ τ ⟨rfl, fr, i1⟩
    have Mk := RM_fr M fr (by simp) (by simp)
    rw [Mk.2.1]
    exact br_t (nI_le (Nat.le_refl _) (by omega)) (h τ fr i1)
theorem sm_codeOf (M : RM n m a b c σ) (W : Wf n m a b) {k A : Nat} {x : Nat → Nat} (hA : ∀ l, l < m → σ.1 A l = nI (x l)) {Q : Int32 → Prop} (h : Q (nI (en k x m))) : f_X11_codeOf A 20 (nI k) σ Q := by
  have hm := W.2.2.1
  unfold f_X11_codeOf
  rw [M.2.1]
  refine lpG2 (fun N v i => N ≤ m ∧ i = nI N - 1 ∧ ∃ g, v = nI g ∧ g * k ^ N + en k x N = en k x m) ?_ (N := m) ⟨Nat.le_refl _, rfl, 0, rfl, by rw [Nat.zero_mul, Nat.zero_add]⟩
  rintro rec N _ _ ⟨hN, rfl, g, rfl, hg⟩ hrec
  cases N with
  | zero =>
    refine br_t (by decide) ?_
    rw [Nat.pow_zero, Nat.mul_one] at hg
    have : g = en k x m := by rw [← hg]; rfl
    rw [this]; exact h
  | succ i =>
    have ek : nI (i + 1) - 1 = nI i := by rw [show (1 : Int32) = nI 1 from rfl, z_sub (by omega)]; rfl
    have ek2 : nI i + (-1 : Int32) = nI i - 1 := (Int32.sub_eq_add_neg _ _).symm
    rw [ek]
    refine br_f (nI_nlt (a := i) (b := 0) (Nat.zero_le _) (by omega)) ⟨vp_lt (by omega) (by omega), ?_⟩
    rintro _ rfl
    rw [ek2, rd_nI (by omega), hA i (by omega), z_mul, nI_add]
    refine hrec i _ _ (by omega) ⟨by omega, rfl, k * g + x i, rfl, ?_⟩
    have e1 : en k x (i + 1) = en k x i + x i * k ^ i := rfl
    rw [e1, Nat.pow_succ] at hg
    rw [← hg, Nat.add_mul]
    have : k * g * k ^ i = g * (k ^ i * k) := by
      rw [Nat.mul_comm k g, Nat.mul_assoc, Nat.mul_comm k (k ^ i)]
    omega
theorem sm_codes (M : RM n m a b c σ) (W : Wf n m a b) {k : Nat} {Q : Int32 → Prop} (h : Q (nI (k ^ m))) : f_X11_codes (nI k) σ Q := by
  have hm := W.2.2.1
  unfold f_X11_codes
  refine lf_2_1 m (by omega) (fun l v => v = nI (k ^ l)) (Nat.zero_le _) rfl ?_ ?_
  · rintro rec l _ hl rfl hrec
    rw [M.2.1]
    refine br_f (nI_ge hl (by omega)) ?_
    rw [z_mul]
    exact hrec _ rfl
  · rintro rec _ rfl
    rw [M.2.1]
    exact br_t (nI_le (Nat.le_refl _) (by omega)) h
theorem sm_isTrialFit (M : RM n m a b c σ) (W : Wf n m a b) {x : Nat → Nat} (hx : ∀ l, l < m → x l < 100) (hA : ∀ l, l < m → σ.1 18 l = nI (x l)) {Q : Int32 → Prop} (h1 : prp m a b m x → Q 1) (h0 : ¬ prp m a b m x → Q 0) : f_X11_isTrialFit σ Q := by
  have hm := W.2.2.1
  unfold f_X11_isTrialFit
  refine lf_1_0 m (by omega) (fun l => ∀ u v, u < l → v < u → mts a b u v = true → x u ≠ x v) (Nat.zero_le _) (fun _ _ h => absurd h (Nat.not_lt_zero _)) ?_ ?_
  · rintro rec l hl i1 hrec
    rw [M.2.1]
    refine br_f (nI_ge hl (by omega)) ?_
    refine lf_1_0 l (by omega) (fun o => ∀ v, v < o → mts a b l v = true → x l ≠ x v) (Nat.zero_le _) (fun _ h => absurd h (Nat.not_lt_zero _)) ?_ ?_
    · rintro rec4 o ho j1 hrec4
      refine br_f (nI_ge ho (by omega)) ⟨vp_lt (by omega) (by omega), vp_lt (by omega) (by omega), ?_⟩
      rw [rd_nI (by omega), rd_nI (by omega), hA l hl, hA o (by omega)]
      dsimp only [kk_j0]
      have xl := hx l hl
      have xo := hx o (by omega)
      have go : (mts a b l o = true → x l ≠ x o) → rec4 (nI o + 1) := fun g => hrec4 (fun v hv => by
        by_cases e : v = o
        · rw [e]; exact g
        · exact j1 v (by omega))
      refine ⟨fun z => go (fun _ e => z (by rw [e])), fun z => ?_⟩
      have z := (nI_ne (by omega) (by omega)).mp z
      refine sm_doMeet M W hl (show o < m by omega) ?_
      rw [doMeet_eq (m := m) (show l ≠ o by omega)]
      refine bI_zn (fun y => go (fun g => by rw [y] at g; cases g)) (fun y => h0 (fun p => p l o hl (by omega) y z))
    · rintro rec4 j1
      refine br_t (nI_le (Nat.le_refl _) (by omega)) (hrec (fun u v hu hv => ?_))
      by_cases e : u = l
      · rw [e]; exact j1 v (by omega)
      · exact i1 u v (by omega) hv
  · rintro rec i1
    rw [M.2.1]
    refine br_t (nI_le (Nat.le_refl _) (by omega)) (h1 (fun u v hu hv hmt e => ?_))
    have ne := (mts_iff.mp hmt).1
    rcases Nat.lt_or_ge v u with y | y
    · exact i1 u v hu y hmt e
    · exact i1 v u hv (by omega) (by rw [mts_comm]; exact hmt) e.symm
end
/-- the row of codes come to, and their marks -/
def BF (m : Nat) (a b : Nat → Nat) (k T c0 : Nat) (Old : Nat → Bool) (first last : Nat) (q kd : Nat → Nat) : Prop :=
  (1 ≤ last ∧ q 0 = c0 ∧ ∀ i, i < last → q i < T ∧ 1 ≤ kd (q i) ∧ kd (q i) ≤ i + 1 ∧ Old (q i) = false ∧ rea m a b k (kd (q i) - 1) (dgt k c0) (dgt k (q i))) ∧
  (∀ i j, i < last → j < last → q i = q j → i = j) ∧
  (∀ d, d < T → (kd d ≠ 0 → Old d = true ∨ ∃ i, i < last ∧ q i = d) ∧ (Old d = true → kd d ≠ 0)) ∧
  ((∀ i j, i < j → j < last → kd (q i) ≤ kd (q j)) ∧ (first < last → ∀ j, j < last → kd (q j) ≤ kd (q first) + 1)) ∧
  (first ≤ last ∧ ∀ i e, i < first → e < T → tsp m a b k (dgt k (q i)) (dgt k e) → kd e ≠ 0 ∧ (Old e = true ∨ kd e ≤ kd (q i) + 1))
section
variable {m : Nat} {a b : Nat → Nat} {k T c0 first last : Nat} {Old : Nat → Bool} {q kd : Nat → Nat}
theorem BF_room (h : BF m a b k T c0 Old first last q kd) : last ≤ T := by
  obtain ⟨⟨_, _, b1⟩, b2, _⟩ := h
  rcases Nat.lt_or_ge T last with g | g
  · obtain ⟨i, j, h1, h2, h3⟩ := php T q (fun i hi => (b1 i (by omega)).1)
    have := b2 i j (by omega) (by omega) h3
    omega
  · exact g
theorem BF_add (h : BF m a b k T c0 Old first last q kd) (hf : first < last) {e : Nat} (he : e < T) (hn : kd e = 0) (hs : tsp m a b k (dgt k (q first)) (dgt k e)) : BF m a b k T c0 Old first (last + 1) (ext1 q last e) (ext1 kd e (kd (q first) + 1)) := by
  obtain ⟨⟨b0, bc, b1⟩, b2, b3, ⟨b4, b4'⟩, b5, b6⟩ := h
  have oe : Old e = false := by
    cases z : Old e with
    | false => rfl
    | true => exact absurd hn ((b3 e he).2 z)
  have ne : ∀ i, i < last → q i ≠ e := fun i hi z => by
    have := (b1 i hi).2.1
    rw [z, hn] at this
    omega
  have kq : ∀ i, i < last → ext1 kd e (kd (q first) + 1) (q i) = kd (q i) := fun i hi => x1_ne _ _ (ne i hi)
  have qi : ∀ i, i < last → ext1 q last e i = q i := fun i hi => x1_ne _ _ (by omega)
  obtain ⟨f1, f2, f3, f4, f5⟩ := b1 first hf
  refine ⟨⟨by omega, by rw [qi 0 (by omega)]; exact bc, fun i hi => ?_⟩, fun i j hi hj hij => ?_, fun d hd => ⟨fun hk => ?_, fun ho => ?_⟩, ⟨fun i j hij hj => ?_, fun _ j hj => ?_⟩, by omega, fun i g hi hg hst => ?_⟩
  · by_cases z : i = last
    · rw [z, x1_at, x1_at]
      refine ⟨he, by omega, by omega, oe, ?_⟩
      rw [Nat.add_sub_cancel]
      obtain ⟨v, hv⟩ : ∃ v, kd (q first) = v + 1 := ⟨kd (q first) - 1, by omega⟩
      rw [hv] at f5 ⊢
      exact Or.inr ⟨_, f5, hs⟩
    · rw [qi i (by omega), kq i (by omega)]
      exact b1 i (by omega)
  · by_cases z : i = last
    · by_cases y : j = last
      · omega
      · rw [z, x1_at, qi j (by omega)] at hij
        exact absurd hij.symm (ne j (by omega))
    · by_cases y : j = last
      · rw [y, x1_at, qi i (by omega)] at hij
        exact absurd hij (ne i (by omega))
      · rw [qi i (by omega), qi j (by omega)] at hij
        exact b2 i j (by omega) (by omega) hij
  · by_cases z : d = e
    · exact Or.inr ⟨last, by omega, by rw [x1_at, z]⟩
    · rw [x1_ne _ _ z] at hk
      rcases (b3 d hd).1 hk with y | ⟨i, i1, i2⟩
      · exact Or.inl y
      · exact Or.inr ⟨i, by omega, by rw [qi i i1]; exact i2⟩
  · by_cases z : d = e
    · rw [z, oe] at ho; cases ho
    · rw [x1_ne _ _ z]; exact (b3 d hd).2 ho
  · rw [qi i (by omega), kq i (by omega)]
    by_cases y : j = last
    · rw [y, x1_at, x1_at]
      exact b4' hf i (by omega)
    · rw [qi j (by omega), kq j (by omega)]
      exact b4 i j hij (by omega)
  · rw [qi first hf, kq first hf]
    by_cases y : j = last
    · rw [y, x1_at, x1_at]; exact Nat.le_refl _
    · rw [qi j (by omega), kq j (by omega)]
      exact b4' hf j (by omega)
  · rw [qi i (by omega)] at hst ⊢
    rw [kq i (by omega)]
    obtain ⟨g1, g2⟩ := b6 i g hi hg hst
    by_cases z : g = e
    · rw [z] at g1; exact absurd hn g1
    · rw [x1_ne _ _ z]; exact ⟨g1, g2⟩
theorem BF_next (h : BF m a b k T c0 Old first last q kd) (hf : first < last) (hd : ∀ e, e < T → tsp m a b k (dgt k (q first)) (dgt k e) → kd e ≠ 0 ∧ (Old e = true ∨ kd e ≤ kd (q first) + 1)) : BF m a b k T c0 Old (first + 1) last q kd := by
  obtain ⟨b1, b2, b3, ⟨b4, b4'⟩, b5, b6⟩ := h
  refine ⟨b1, b2, b3, ⟨b4, fun hl j hj => ?_⟩, by omega, fun i e hi he hs => ?_⟩
  · have h1 := b4' hf j hj
    have h2 := b4 first (first + 1) (by omega) hl
    omega
  · by_cases z : i = first
    · rw [z] at hs ⊢; exact hd e he hs
    · exact b6 i e (by omega) he hs
/-- at the end: all within reach are marked -/
theorem BF_all (hk : 1 ≤ k) (hT : T = k ^ m) (hc : c0 < T) (h : BF m a b k T c0 Old last last q kd) (hcl : ∀ d, d < T → Old d = true → ∀ e, e < T → tsp m a b k (dgt k d) (dgt k e) → Old e = true) : ∀ t d, d < T → rea m a b k t (dgt k c0) (dgt k d) → kd d ≠ 0 ∧ ((∀ d, Old d = false) → kd d ≤ t + 1) := by
  obtain ⟨⟨b0, bc, b1⟩, b2, b3, ⟨b4, b4'⟩, b5, b6⟩ := h
  have bl : ∀ l, l < m → dgt k c0 l < k := fun l _ => dgt_lt (by omega)
  intro t
  induction t with
  | zero =>
    intro d hd hr
    have e : d = c0 := by
      rw [hT] at hd hc
      rw [← dgt_en' hd, ← dgt_en' hc]
      exact en_cong (fun l hl => (hr l hl).symm)
    obtain ⟨f1, f2, f3, _⟩ := b1 0 (by omega)
    rw [bc] at f2 f3
    rw [e]
    exact ⟨by omega, fun _ => by omega⟩
  | succ t ih =>
    intro d hd hr
    rcases hr with hr | ⟨z, hr, hs⟩
    · obtain ⟨h1, h2⟩ := ih d hd hr
      exact ⟨h1, fun ho => by have := h2 ho; omega⟩
    · have zl := rea_bl hr bl
      have ez := en_lt zl
      have dz := en_dgt (by omega) zl
      have hr' : rea m a b k t (dgt k c0) (dgt k (en k z m)) := rea_cong (fun _ _ => rfl) (fun l hl => (dz l hl).symm) hr
      have hs' : tsp m a b k (dgt k (en k z m)) (dgt k d) := tsp_cong (fun l hl => (dz l hl).symm) (fun _ _ => rfl) hs
      rw [← hT] at ez
      obtain ⟨h1, h2⟩ := ih _ ez hr'
      rcases (b3 _ ez).1 h1 with y | ⟨i, i1, i2⟩
      · refine ⟨(b3 d hd).2 (hcl _ ez y d hd hs'), fun ho => ?_⟩
        rw [ho] at y; cases y
      · rw [← i2] at hs' h2
        obtain ⟨g1, g2⟩ := b6 i d i1 hd hs'
        refine ⟨g1, fun ho => ?_⟩
        have := h2 ho
        rcases g2 with g2 | g2
        · rw [ho] at g2; cases g2
        · omega
theorem BF_mark (h : BF m a b k T c0 Old first last q kd) : ∀ d, d < T → kd d ≠ 0 → Old d = true ∨ (Old d = false ∧ kd d ≤ T ∧ rea m a b k (kd d - 1) (dgt k c0) (dgt k d)) := by
  have rm := BF_room h
  obtain ⟨⟨b0, bc, b1⟩, b2, b3, _⟩ := h
  intro d hd hk
  rcases (b3 d hd).1 hk with y | ⟨i, i1, i2⟩
  · exact Or.inl y
  · obtain ⟨f1, f2, f3, f4, f5⟩ := b1 i i1
    rw [i2] at f3 f4 f5
    exact Or.inr ⟨f4, by omega, f5⟩
theorem BF_start {kd0 : Nat → Nat} (hc : c0 < T) (hn : kd0 c0 = 0) (ho : ∀ d, d < T → (kd0 d ≠ 0 ↔ Old d = true)) : BF m a b k T c0 Old 0 1 (fun _ => c0) (ext1 kd0 c0 1) := by
  have oc : Old c0 = false := by
    cases z : Old c0 with
    | false => rfl
    | true => exact absurd hn ((ho c0 hc).mpr z)
  refine ⟨⟨Nat.le_refl _, rfl, fun i hi => ?_⟩, fun i j hi hj _ => by omega, fun d hd => ⟨fun hk => ?_, fun h => ?_⟩, ⟨fun i j hij hj => by omega, fun _ j hj => Nat.le_succ _⟩, by omega, fun i e hi => absurd hi (Nat.not_lt_zero _)⟩
  · rw [x1_at]
    exact ⟨hc, Nat.le_refl _, by omega, oc, fun _ _ => rfl⟩
  · by_cases z : d = c0
    · exact Or.inr ⟨0, by omega, z.symm⟩
    · rw [x1_ne _ _ z] at hk; exact Or.inl ((ho d hd).mp hk)
  · by_cases z : d = c0
    · rw [z, oc] at h; cases h
    · rw [x1_ne _ _ z]; exact (ho d hd).mpr h
end
