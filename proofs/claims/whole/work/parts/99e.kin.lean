/-! kinds and turns: the first side -/
section
variable {n m : Nat} {a b : Nat → Nat} {σ : kk_St} {S X : Nat → Bool}
theorem sc_spread (hm : m ≤ 6) {F : Nat → Bool} {Q : Int32 → Prop} (h : Q (m4 m F)) : f_X9_spread (mk F m) Q := by
  unfold f_X9_spread
  refine lf_2_1 6 (by omega) (fun l v => v = mk (fun j => decide (j % 2 = 0) && (decide (j / 2 < m) && F (j / 2))) (2 * l)) (Nat.zero_le _) rfl ?_ ?_
  · rintro rec l _ hl rfl hrec
    refine br_f (nI_ge (a := l) (b := 6) hl (by omega)) ?_
    rintro _ rfl
    refine hrec _ ?_
    rw [z_bit _ (by omega), mk_bt _ _ (by omega), show (2 : Int32) = nI 2 from rfl, z_mul]
    have p1 := mk_push (fun j => decide (j % 2 = 0) && (decide (j / 2 < m) && F (j / 2))) (n := 2 * l) (by omega)
    have p2 := mk_push (fun j => decide (j % 2 = 0) && (decide (j / 2 < m) && F (j / 2))) (n := 2 * l + 1) (by omega)
    rw [decide_eq_false (show ¬ (2 * l + 1) % 2 = 0 by omega), Bool.false_and] at p2
    have p2 : mk (fun j => decide (j % 2 = 0) && (decide (j / 2 < m) && F (j / 2))) (2 * l + 1) = mk (fun j => decide (j % 2 = 0) && (decide (j / 2 < m) && F (j / 2))) (2 * (l + 1)) := p2
    rw [← p2, ← p1, decide_eq_true (show 2 * l % 2 = 0 by omega), Bool.true_and, show 2 * l / 2 = l by omega]
    cases (decide (l < m) && F l) with
    | true => rfl
    | false =>
      have : (0 : Int32) <<< (nI (2 * l) &&& 31) = nI 0 := by
        have := z_shl (N := 0) (k := 2 * l) (by omega)
        rw [Nat.zero_mul] at this
        exact this
      show _ ||| ((0 : Int32) <<< (nI (2 * l) &&& 31)) = mk _ (2 * l)
      rw [this]
      exact Int32.or_zero
  · rintro rec _ rfl
    refine br_t (nI_le (a := 6) (b := 6) (Nat.le_refl _) (by omega)) ?_
    have e : mk (fun j => decide (j % 2 = 0) && (decide (j / 2 < m) && F (j / 2))) (2 * 6) = m4 m F := by
      rw [← mk_grow (n := 2 * m) (by omega) (fun j h1 _ => by rw [decide_eq_false (show ¬ j / 2 < m by omega)]; simp)]
      exact mk_cong (fun j hj => by rw [decide_eq_true (show j / 2 < m by omega), Bool.true_and])
    rw [e]; exact h
theorem sc_prepare (N : RN n m a b σ) (hm : m ≤ 6) {k : Nat} {Q : kk_St → Prop} (h : ∀ τ, frL [10, 27, 28, 30] σ τ → τ.1 10 5 = nI k → SN 28 noB τ → SN 30 noB τ → MT m a b τ → Q τ) : f_X9_prepare (nI k) σ Q := by
  unfold f_X9_prepare
  rintro _ rfl
  refine sc_fill (by omega) (fun τ1 a1 _ f1 => ?_)
  refine sc_fill (by omega) (fun τ2 b1 _ f2 => ?_)
  dsimp only [kk_j1]
  have fr : frL [10, 27, 28, 30] σ τ2 := frL_tr (frL_tr (frL_wr (by simp)) (frL_mono f1 (by simp))) (frL_mono f2 (by simp))
  have k5 : τ2.1 10 5 = nI k := by rw [f2.1 10 (by simp), f1.1 10 (by simp), wr_at, upd_at]
  have s1 : SN 28 noB τ2 := fun w hw => by rw [f2.1 28 (by simp), a1 w hw, ← mk_0 32]; rfl
  have s2 : SN 30 noB τ2 := fun w hw => by rw [b1 w hw, ← mk_0 32]; rfl
  refine lf_2_0 m (by omega) (fun l ρ => frL [27] τ2 ρ ∧ ∀ j, j < l → ρ.1 27 j = m4 m (mts a b j)) (Nat.zero_le _) ⟨frL_rf, fun _ h => absurd h (Nat.not_lt_zero _)⟩ ?_ ?_
  · rintro rec l ρ hl ⟨fρ, i1⟩ hrec
    have Nρ := RN_fr (RN_fr N fr (by simp)) fρ (by simp)
    rw [Nρ.2.1]
    refine br_f (nI_ge hl (by omega)) (br_f (nI_ge (a := l) (b := 6) (by omega) (by omega)) ⟨vp_lt (by omega) (by omega), ?_⟩)
    rw [rd_nI (by omega), Nρ.2.2.2.2.2.1 l hl]
    refine sc_spread hm ⟨vp_lt (by omega) (by omega), ?_⟩
    rintro _ rfl
    rw [nI_clamp (by omega)]
    refine hrec _ ⟨frL_tr fρ (frL_wr (by simp)), fun j hj => ?_⟩
    rw [wr_at, upd_if]
    by_cases e : j = l
    · rw [if_pos e, e]
    · rw [if_neg e]; exact i1 j (by omega)
  · rintro rec ρ ⟨fρ, i1⟩
    have Nρ := RN_fr (RN_fr N fr (by simp)) fρ (by simp)
    rw [Nρ.2.1]
    refine br_t (nI_le (Nat.le_refl _) (by omega)) (h ρ (frL_tr fr (frL_mono fρ (by simp))) (by rw [fρ.1 10 (by simp)]; exact k5) (fun w hw => by rw [fρ.1 28 (by simp)]; exact s1 w hw) (fun w hw => by rw [fρ.1 30 (by simp)]; exact s2 w hw) i1)
theorem or4 {x v l : Nat} (hl : l < 7) (hx : x < 4 ^ l) : nI x ||| (nI v <<< (nI (2 * l) &&& 31)) = nI (x + v * 4 ^ l) := by
  have e : (4 : Nat) ^ l = 2 ^ (2 * l) := by rw [Nat.pow_mul]
  rw [z_shl (by omega), Int32.or_comm, Nat.mul_comm, fa_or_sum v (by rw [← e]; exact hx), ← e]
  congr 1
  rw [Nat.mul_comm]
  omega
theorem sc_codeOf (N : RN n m a b σ) (hm : m ≤ 6) {A : Nat} {x : Nat → Nat} (hA : ∀ l, l < m → σ.1 A l = nI (x l)) (hx : ∀ l, l < m → x l < 4) {Q : Int32 → Prop} (h : Q (nI (en 4 x m))) : f_X9_codeOf A 20 σ Q := by
  unfold f_X9_codeOf
  dsimp only [kk_j1]
  refine lf_2_1 m (by omega) (fun l v => v = nI (en 4 x l)) (Nat.zero_le _) rfl ?_ ?_
  · rintro rec l _ hl rfl hrec
    rw [N.2.1]
    refine br_f (nI_ge hl (by omega)) (br_f (nI_ge (a := l) (b := 6) (by omega) (by omega)) ⟨vp_lt (by omega) (by omega), ?_⟩)
    rintro _ rfl
    refine hrec _ ?_
    have xl := hx l hl
    have e3 : nI (x l) &&& (3 : Int32) = nI (x l) := by
      rw [show (3 : Int32) = nI 3 from rfl, fa_and]
      congr 1
      have := Nat.and_two_pow_sub_one_eq_mod (x l) 2
      rw [show (2 : Nat) ^ 2 - 1 = 3 from rfl, show (2 : Nat) ^ 2 = 4 from rfl, Nat.mod_eq_of_lt xl] at this
      exact this
    rw [rd_nI (by omega), hA l hl, e3, show (2 : Int32) = nI 2 from rfl, z_mul, or4 (by omega) (en_lt (fun j hj => hx j (by omega)))]
    rfl
  · rintro rec _ rfl
    rw [N.2.1]
    exact br_t (nI_le (Nat.le_refl _) (by omega)) h
theorem SN_no {A : Nat} {τ : kk_St} {X : Nat → Bool} (h : SN A X τ) (hx : ∀ d, d < 4096 → X d = false) : SN A noB τ := fun w hw => by
  rw [h w hw]
  exact mk_cong (fun j hj => hx _ (by omega))
theorem sc_turns (N : RN n m a b σ) (W : Wf n m a b) (hm : m ≤ 6) {k : Nat} (hk : k ≤ 4) {A B : Nat} {x y : Nat → Nat} (hAl : A ∉ [10, 27, 28, 30]) (hBl : B ∉ [10, 27, 28, 30]) (hA : ∀ l, l < m → σ.1 A l = nI (x l)) (hx : ∀ l, l < m → x l < k) (hB : ∀ l, l < m → σ.1 B l = nI (y l)) (hy : ∀ l, l < m → y l < k) {Q : Int32 → kk_St → Prop} (h1 : ∀ t τ, frL [10, 27, 28, 29, 30] σ τ → rea m a b k t x y → (∀ s, s < t → ¬ rea m a b k s x y) → t ≤ 4096 → Q (nI t) τ) (h0 : ∀ τ, frL [10, 27, 28, 29, 30] σ τ → (∀ s, ¬ rea m a b k s x y) → Q (-2) τ) : f_X9_fewestTurns A 20 B 20 (nI k) σ Q := by
  have p4 := p4_le hm
  unfold f_X9_fewestTurns
  refine sc_prepare N hm (fun τ f1 k5 s1 s2 T => ?_)
  have N1 := RN_fr N f1 (by simp)
  refine sc_codeOf N1 hm (x := y) (fun l hl => by rw [f1.1 B hBl]; exact hB l hl) (fun l hl => by have := hy l hl; omega) ?_
  refine sc_codeOf N1 hm (x := x) (fun l hl => by rw [f1.1 A hAl]; exact hA l hl) (fun l hl => by have := hx l hl; omega) ?_
  have x4 : ∀ l, l < m → x l < 4 := fun l hl => by have := hx l hl; omega
  have y4 : ∀ l, l < m → y l < 4 := fun l hl => by have := hy l hl; omega
  have cx := en_lt x4
  have cy := en_lt y4
  have dx := en_dgt (by omega) x4
  have dy := en_dgt (by omega) y4
  have bx : ∀ l, l < m → dgt 4 (en 4 x m) l < k := fun l hl => by rw [dx l hl]; exact hx l hl
  have cl0 : CLs m a b k noB := fun _ _ h => by cases h
  obtain ⟨M, hM⟩ : ∃ M, M = 4096 := ⟨_, rfl⟩
  refine sc_mark s1 s2 (Nat.lt_of_lt_of_le cx p4) (fun τ1 S1 X1 f2 A1 B1 D1 => ?_)
  have L1 := lev_start hm cx rfl cl0 D1
  have eq : ∀ t, rea m a b k t (dgt 4 (en 4 x m)) (dgt 4 (en 4 y m)) ↔ rea m a b k t x y := fun t => ⟨rea_cong dx dy, rea_cong (fun l hl => (dx l hl).symm) (fun l hl => (dy l hl).symm)⟩
  have f3 : frL [10, 27, 28, 29, 30] σ τ1 := frL_tr (frL_mono f1 (by simp)) (frL_mono f2 (by simp))
  have K1 : τ1.1 10 5 = nI k := by rw [f2.1 10 (by simp)]; exact k5
  have T1 : MT m a b τ1 := fun l hl => by rw [f2.1 27 (by simp)]; exact T l hl
  refine lf_2_0 (M + 1) (by omega) (fun t ρ => frL [28, 29, 30] τ1 ρ ∧ ∃ S X, SN 28 S ρ ∧ SN 30 X ρ ∧ LVL m a b k noB (en 4 x m) t S X ∧ t + (if anyb X M then 1 else 0) ≤ fb_ct S M ∧ ∀ s, s < t → ¬ rea m a b k s x y) (Nat.zero_le _) ⟨frL_rf, S1, X1, A1, B1, L1, ?_, fun _ h => absurd h (Nat.not_lt_zero _)⟩ ?_ ?_
  · have : fb_ct noB M < fb_ct S1 M := ct_strict (x := en 4 x m) (fun _ _ h => by cases h) (by omega) rfl ((D1 _ (by omega)).1.mpr (Or.inr rfl))
    split <;> omega
  · rintro rec t ρ ht ⟨fρ, S, X, A2, B2, L, ct, no⟩ hrec
    refine br_f (nI_nlt (a := 4096) (b := t) (by omega) (by omega)) ?_
    refine sc_isSeen A2 (Nat.lt_of_lt_of_le cy p4) ?_
    refine bI_zn (fun z => ?_) (fun z => ?_)
    · have fs := frL_tr f3 (frL_mono fρ (show ∀ q, q ∈ [28, 29, 30] → q ∈ [10, 27, 28, 29, 30] by simp))
      refine sc_advance (RN_fr N fs (by simp)) W hm A2 B2 (fun l hl => by rw [fρ.1 27 (by simp)]; exact T1 l hl) hk (by rw [fρ.1 10 (by simp)]; exact K1) (fun c hc hX => (L.2.1 c hc hX).2) hM (fun ρ' S' X' f4 A3 B3 D3 => ?_)
      have noT : ¬ rea m a b k t x y := fun hr => by
        have := (L.1 _ (Nat.lt_of_lt_of_le cy p4)).mpr (Or.inr ⟨cy, (eq t).mpr hr⟩)
        rw [this] at z; cases z
      refine bI_nz (fun g => ?_) (fun g => ?_)
      · refine hrec _ ⟨frL_tr fρ f4, S', X', A3, B3, lev_step hm hk bx cl0 L D3, lev_ct hM g ct D3, fun s hs => ?_⟩
        by_cases e : s = t
        · rw [e]; exact noT
        · exact no s (by omega)
      · refine h0 ρ' (frL_tr fs (frL_mono f4 (by simp))) (fun s hr => ?_)
        have := lev_end hm hk cx bx L (fun d hd => anyb_no.mp g d (by omega)) s _ cy ((eq s).mpr hr)
        rw [this] at z; cases z
    · refine h1 t ρ (frL_tr f3 (frL_mono fρ (by simp))) ?_ no (by omega)
      rcases (L.1 _ (Nat.lt_of_lt_of_le cy p4)).mp z with g | ⟨_, g⟩
      · cases g
      · exact (eq t).mp g
  · rintro rec ρ ⟨fρ, S, X, A2, B2, L, ct, no⟩
    exfalso
    have := fb_ct_le S M
    split at ct <;> omega
theorem sc_spreadKind (N : RN n m a b σ) (W : Wf n m a b) (hm : m ≤ 6) {k c0 : Nat} (hk : k ≤ 4) (hK : σ.1 10 5 = nI k) (T : MT m a b σ) (hc : c0 < 4 ^ m) (h0 : ∀ l, l < m → dgt 4 c0 l < k) {S0 S1 X1 : Nat → Bool} (hcl : CLs m a b k S0) (hn : S0 c0 = false) (A1 : SN 28 S1 σ) (B1 : SN 30 X1 σ) (D1 : MKD S0 noB S1 X1 (fun d => d = c0)) {Q : kk_St → Prop} (h : ∀ τ S', frL [28, 29, 30] σ τ → SN 28 S' τ → SN 30 noB τ → (∀ d, d < 4096 → (S' d = true ↔ S0 d = true ∨ (d < 4 ^ m ∧ RF m a b k (dgt 4 c0) (dgt 4 d)))) → Q τ) : f_X9_spreadKind σ Q := by
  have p4 := p4_le hm
  obtain ⟨M, hM⟩ : ∃ M, M = 4096 := ⟨_, rfl⟩
  unfold f_X9_spreadKind
  have L1 := lev_start hm hc hn hcl D1
  refine lf_2_0 (M + 1) (by omega) (fun t ρ => frL [28, 29, 30] σ ρ ∧ ∃ S X, SN 28 S ρ ∧ SN 30 X ρ ∧ LVL m a b k S0 c0 t S X ∧ t + (if anyb X M then 1 else 0) ≤ fb_ct S M) (Nat.zero_le _) ⟨frL_rf, S1, X1, A1, B1, L1, ?_⟩ ?_ ?_
  · have : fb_ct S0 M < fb_ct S1 M := ct_strict (x := c0) (fun d hd hs => (D1 d (by omega)).1.mpr (Or.inl hs)) (by omega) hn ((D1 _ (by omega)).1.mpr (Or.inr rfl))
    split <;> omega
  · rintro rec t ρ ht ⟨fρ, S, X, A2, B2, L, ct⟩ hrec
    refine br_f (nI_nlt (a := 4096) (b := t) (by omega) (by omega)) ?_
    refine sc_advance (RN_fr N fρ (by simp)) W hm A2 B2 (fun l hl => by rw [fρ.1 27 (by simp)]; exact T l hl) hk (by rw [fρ.1 10 (by simp)]; exact hK) (fun c hc hX => (L.2.1 c hc hX).2) hM (fun ρ' S' X' f4 A3 B3 D3 => ?_)
    refine bI_nz (fun g => ?_) (fun g => ?_)
    · exact hrec _ ⟨frL_tr fρ f4, S', X', A3, B3, lev_step hm hk h0 hcl L D3, lev_ct hM g ct D3⟩
    · have nX : ∀ d, d < 4096 → X d = false := fun d hd => anyb_no.mp g d (by omega)
      have nD : ∀ d, ¬ ∃ c, c < 4096 ∧ X c = true ∧ suc m a b k c d := fun d ⟨c, c1, c2, _⟩ => by rw [nX c c1] at c2; cases c2
      refine h ρ' S' (frL_tr fρ f4) A3 (SN_no B3 (fun d hd => ?_)) (fun d hd => ?_)
      · cases y : X' d with
        | false => rfl
        | true =>
          rcases (D3 d hd).2.mp y with u | ⟨u, _⟩
          · cases u
          · exact absurd u (nD d)
      · rw [(D3 d hd).1]
        constructor
        · rintro (u | u)
          · rcases (L.1 d hd).mp u with v | ⟨v1, v2⟩
            · exact Or.inl v
            · exact Or.inr ⟨v1, t, v2⟩
          · exact absurd u (nD d)
        · rintro (u | ⟨u1, s, u2⟩)
          · exact Or.inl ((L.1 d hd).mpr (Or.inl u))
          · exact Or.inl (lev_end hm hk hc h0 L nX s d u1 u2)
  · rintro rec ρ ⟨fρ, S, X, A2, B2, L, ct⟩
    exfalso
    have := fb_ct_le S M
    split at ct <;> omega
end
