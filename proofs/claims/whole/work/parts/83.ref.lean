/-! the second side's search: picks -/
theorem low_bits : ∀ N, N < 512 → ∀ j, j < 32 → bt (nI N &&& (-nI N)) j = (N.testBit j && !anyb N.testBit j) ∧ bt (nI N &&& (nI N - 1)) j = (N.testBit j && anyb N.testBit j) := by decide +kernel
theorem mk_low (F : Nat → Bool) : mk F 9 &&& (-(mk F 9)) = mk (fun q => F q && !anyb F q) 9 ∧ mk F 9 &&& (mk F 9 - 1) = mk (fun q => F q && anyb F q) 9 := by
  have lt : mN F 9 < 512 := mN_lt F 9
  have e : ∀ k, k < 9 → anyb (mN F 9).testBit k = anyb F k := fun k hk => anyb_cong (fun i hi => by rw [mN_bit, decide_eq_true (show i < 9 by omega), Bool.true_and])
  constructor
  · refine mk_ext (fun k hk => ?_)
    show bt (nI (mN F 9) &&& (-nI (mN F 9))) k = _
    rw [(low_bits _ lt k hk).1, mN_bit]
    by_cases z : k < 9
    · rw [e k z, Bool.and_assoc]
    · rw [decide_eq_false z]; rfl
  · refine mk_ext (fun k hk => ?_)
    show bt (nI (mN F 9) &&& (nI (mN F 9) - 1)) k = _
    rw [(low_bits _ lt k hk).2, mN_bit]
    by_cases z : k < 9
    · rw [e k z, Bool.and_assoc]
    · rw [decide_eq_false z]; rfl
section
variable {n m : Nat} {a b : Nat → Nat} {σ : kk_St} {c : Nat → Int32} {O : Nat → Nat → Bool} {S : Nat → Bool} {pk : Nat → Int32}
def AL (m : Nat) (O : Nat → Nat → Bool) (σ : kk_St) : Prop := ∀ l, l < m → σ.1 10 l = mk (fun q => O q l) 9
def PKc (m : Nat) (pk : Nat → Int32) (σ : kk_St) : Prop := ∀ l, l < m → σ.1 11 l = pk l
def US (m : Nat) (a b : Nat → Nat) (pk : Nat → Int32) (σ : kk_St) : Prop := ∀ p, p < 9 → σ.1 12 p = mk (fun q => usd m a b pk p (nI q)) 9
def PG (m : Nat) (a b : Nat → Nat) (O : Nat → Nat → Bool) (S : Nat → Bool) (pk : Nat → Int32) : Prop := (∀ l, l < m → pk l = -1 ∨ (S l = true ∧ ∃ q, q < 9 ∧ pk l = nI q ∧ O q l = true)) ∧ ∀ i j, i < m → j < m → mts a b i j = true → pk i = pk j → pk i = -1
def GO (m : Nat) (a b : Nat → Nat) (O : Nat → Nat → Bool) (S : Nat → Bool) (pk : Nat → Int32) (f : Nat → Nat) : Prop := okc m a b (LO O) S f ∧ ∀ l, l < m → pk l ≠ -1 → S l = true ∧ pk l = nI (f l)
def wy (m : Nat) (a b : Nat → Nat) (O : Nat → Nat → Bool) (pk : Nat → Int32) (l q : Nat) : Bool := O q l && !usd m a b pk (a l) (nI q) && !usd m a b pk (b l) (nI q)
theorem wy_iff {l q : Nat} : wy m a b O pk l q = true ↔ O q l = true ∧ usd m a b pk (a l) (nI q) = false ∧ usd m a b pk (b l) (nI q) = false := by
  simp [wy, and_assoc]
theorem usd_no {p l : Nat} {v : Int32} (h : usd m a b pk p v = false) (hl : l < m) (hi : inc a b l p = true) : pk l ≠ v := fun z => by
  have := anyb_no.mp h l hl
  rw [hi, decide_eq_true z] at this
  cases this
theorem wy_of {f : Nat → Nat} (h : GO m a b O S pk f) {l : Nat} (hl : l < m) (hs : S l = true) (hp : pk l = -1) : f l < 9 ∧ wy m a b O pk l (f l) = true := by
  obtain ⟨g1, g2⟩ := LO_lt (h.1.1 l hl hs)
  have no : ∀ p, inc a b l p = true → usd m a b pk p (nI (f l)) = false := fun p hi => by
    refine anyb_no.mpr (fun j hj => ?_)
    cases z : inc a b j p with
    | false => rfl
    | true =>
      by_cases e : pk j = nI (f l)
      · exfalso
        have ne : pk j ≠ -1 := by rw [e]; exact nI_ne_m1 (by omega)
        obtain ⟨sj, ej⟩ := h.2 j hj ne
        have j9 := (LO_lt (h.1.1 j hj sj)).1
        rw [e] at ej
        have ee := (nI_ne (by omega) (by omega)).mp ej
        have jl : l ≠ j := fun y => ne (by rw [← y]; exact hp)
        exact h.1.2 l j hl hj hs sj (mts_iff.mpr ⟨jl, p, hi, z⟩) ee
      · rw [decide_eq_false e]; rfl
  exact ⟨g1, wy_iff.mpr ⟨g2, no _ (inc_iff.mpr (Or.inl rfl)), no _ (inc_iff.mpr (Or.inr rfl))⟩⟩
theorem PG_add (h : PG m a b O S pk) {l q : Nat} (hl : l < m) (hs : S l = true) (hq : q < 9) (hw : wy m a b O pk l q = true) : PG m a b O S (upd pk l (nI q)) := by
  obtain ⟨w1, w2, w3⟩ := wy_iff.mp hw
  have no : ∀ j, j < m → mts a b l j = true → pk j ≠ nI q := fun j hj hm => by
    obtain ⟨_, p, p1, p2⟩ := mts_iff.mp hm
    rcases inc_iff.mp p1 with z | z
    · exact usd_no w2 hj (by rw [z]; exact p2)
    · exact usd_no w3 hj (by rw [z]; exact p2)
  refine ⟨fun j hj => ?_, fun i j hi hj hm he => ?_⟩
  · rw [upd_if]
    by_cases e : j = l
    · rw [if_pos e]; exact Or.inr ⟨by rw [e]; exact hs, q, hq, rfl, by rw [e]; exact w1⟩
    · rw [if_neg e]; exact h.1 j hj
  · have ne := (mts_iff.mp hm).1
    rw [upd_if] at he ⊢
    rw [upd_if] at he
    by_cases e : i = l
    · subst e
      rw [if_pos rfl, if_neg (Ne.symm ne)] at he
      exact absurd he.symm (no j hj hm)
    · rw [if_neg e] at he ⊢
      by_cases e2 : j = l
      · subst e2
        rw [if_pos rfl] at he
        exact absurd he (no i hi (by rw [mts_comm]; exact hm))
      · rw [if_neg e2] at he
        exact h.2 i j hi hj hm he
theorem GO_add {f : Nat → Nat} {l : Nat} (h : GO m a b O S pk f) (hs : S l = true) : GO m a b O S (upd pk l (nI (f l))) f := by
  refine ⟨h.1, fun j hj => ?_⟩
  rw [upd_if]
  by_cases e : j = l
  · rw [if_pos e, e]; exact fun _ => ⟨hs, rfl⟩
  · rw [if_neg e]; exact h.2 j hj
/-- the colours at a post but for one line -/
theorem usd_l {l p : Nat} {w : Int32} (hl : l < m) : usd m a b pk p w = ((inc a b l p && decide (pk l = w)) || anyb (fun k => !decide (k = l) && (inc a b k p && decide (pk k = w))) m) := by
  rw [Bool.eq_iff_iff, Bool.or_eq_true]
  constructor
  · intro h
    obtain ⟨k, hk, h⟩ := anyb_iff.mp h
    by_cases e : k = l
    · rw [e] at h; exact Or.inl h
    · exact Or.inr (anyb_iff.mpr ⟨k, hk, by rw [decide_eq_false e, h]; rfl⟩)
  · intro h
    rcases h with h | h
    · exact anyb_iff.mpr ⟨l, hl, h⟩
    · obtain ⟨k, hk, h⟩ := anyb_iff.mp h
      rw [Bool.and_eq_true] at h
      exact anyb_iff.mpr ⟨k, hk, h.2⟩
theorem usd_u {l p : Nat} {v w : Int32} (hl : l < m) : usd m a b (upd pk l v) p w = ((inc a b l p && decide (v = w)) || anyb (fun k => !decide (k = l) && (inc a b k p && decide (pk k = w))) m) := by
  rw [usd_l hl, upd_at]
  congr 1
  refine anyb_cong (fun k hk => ?_)
  by_cases e : k = l
  · rw [decide_eq_true e]; rfl
  · rw [upd_ne _ _ e]
theorem sm_waysOf (M : RM n m a b c σ) (W : Wf n m a b) (A : AL m O σ) (U : US m a b pk σ) {l : Nat} (hl : l < m) {Q : Int32 → Prop} (h : Q (mk (wy m a b O pk l) 9)) : f_X11_waysOf (nI l) σ Q := by
  have hm := W.2.2.1
  have hn := W.2.1
  have hw := W.2.2.2.1 l hl
  unfold f_X11_waysOf
  refine ⟨vp_lt (by omega) (by omega), vp_lt (by omega) (by omega), ?_⟩
  rw [rd_nI (q := 1) (by omega), rd_nI (q := 2) (by omega), rd_nI (q := 10) (by omega), M.2.2.1 l hl, M.2.2.2.1 l hl, A l hl, rd_nI (by omega), rd_nI (by omega), U _ (by omega), U _ (by omega), mk_andn, mk_andn]
  exact ⟨vp_lt (by omega) (by omega), vp_lt (by omega) (by omega), vp_lt (by omega) (by omega), h⟩
theorem sm_picks (M : RM n m a b c σ) (W : Wf n m a b) (U : US m a b pk σ) {l q : Nat} (hl : l < m) (hq : q < 9) {Q : kk_St → Prop} (h : ∀ τ, frF [12] [] σ τ → (∀ p, p < 9 → τ.1 12 p = mk (fun q' => usd m a b pk p (nI q') ^^ (inc a b l p && decide (q' = q))) 9) → Q τ) : f_X11_picks (nI l) (nI q) σ Q := by
  have hm := W.2.2.1
  have hn := W.2.1
  have hw := W.2.2.2.1 l hl
  unfold f_X11_picks
  refine ⟨vp_lt (by omega) (by omega), ?_⟩
  rw [rd_nI (q := 1) (by omega), M.2.2.1 l hl]
  refine ⟨vp_lt (by omega) (by omega), vp_lt (by omega) (by omega), ?_⟩
  rintro _ rfl
  rw [rd_nI (q := 2) (by omega), wr_ne _ _ _ (show 2 ≠ 12 by decide), M.2.2.2.1 l hl]
  refine ⟨vp_lt (by omega) (by omega), vp_lt (by omega) (by omega), vp_lt (by omega) (by omega), ?_⟩
  rintro _ rfl
  refine h _ (frF_tr (frF_c (by simp) (by decide)) (frF_c (by simp) (by decide))) (fun p hp => ?_)
  rw [nI_clamp (show b l < 2 ^ 31 by omega), nI_clamp (show a l < 2 ^ 31 by omega), wr_at, upd_if, rd_nI (by omega), rd_nI (by omega), wr_at, upd_if, upd_if, mk_one (n := 9) hq (by omega), U _ (by omega), if_neg (show ¬ b l = a l by omega), U _ (by omega), mk_xor, mk_xor]
  by_cases e1 : p = b l
  · rw [if_pos e1]
    refine mk_cong (fun q' _ => ?_)
    rw [e1, inc_iff.mpr (Or.inr rfl), Bool.true_and]
  · rw [if_neg e1]
    by_cases e2 : p = a l
    · rw [if_pos e2]
      refine mk_cong (fun q' _ => ?_)
      rw [e2, inc_iff.mpr (Or.inl rfl), Bool.true_and]
    · rw [if_neg e2, U p hp]
      refine mk_cong (fun q' _ => ?_)
      have : inc a b l p = false := by
        cases z : inc a b l p with
        | false => rfl
        | true => rcases inc_iff.mp z with y | y <;> omega
      rw [this, Bool.false_and, Bool.xor_false]
/-- a pick made, and one taken back -/
theorem US_add {τ : kk_St} {l q : Nat} (hl : l < m) (hp : pk l = -1) (hw : wy m a b O pk l q = true) (hq : q < 9) (h : ∀ p, p < 9 → τ.1 12 p = mk (fun q' => usd m a b pk p (nI q') ^^ (inc a b l p && decide (q' = q))) 9) : US m a b (upd pk l (nI q)) τ := by
  obtain ⟨w1, w2, w3⟩ := wy_iff.mp hw
  intro p hp'
  rw [h p hp']
  refine mk_cong (fun q' hq' => ?_)
  rw [usd_u hl, usd_l hl, hp, decide_eq_false (fun z => nI_ne_m1 (show q' < 2 ^ 31 by omega) z.symm), Bool.and_false, Bool.false_or]
  cases z : inc a b l p with
  | false => simp
  | true =>
    by_cases e : q' = q
    · have : usd m a b pk p (nI q') = false := by
        rcases inc_iff.mp z with y | y
        · rw [← y, e]; exact w2
        · rw [← y, e]; exact w3
      rw [usd_l hl, hp, decide_eq_false (fun z => nI_ne_m1 (show q' < 2 ^ 31 by omega) z.symm), Bool.and_false, Bool.false_or] at this
      rw [this, e]; simp
    · rw [decide_eq_false e, decide_eq_false (fun y => e ((nI_ne (by omega) (by omega)).mp y).symm)]; simp
theorem US_del {τ : kk_St} {l q : Nat} (G : PG m a b O S pk) (hl : l < m) (hp : pk l = nI q) (hq : q < 9) (h : ∀ p, p < 9 → τ.1 12 p = mk (fun q' => usd m a b pk p (nI q') ^^ (inc a b l p && decide (q' = q))) 9) : US m a b (upd pk l (-1)) τ := by
  intro p hp'
  rw [h p hp']
  refine mk_cong (fun q' hq' => ?_)
  have hm1 : decide ((-1 : Int32) = nI q') = false := decide_eq_false (fun z => nI_ne_m1 (show q' < 2 ^ 31 by omega) z.symm)
  rw [usd_u hl, usd_l hl, hp, hm1, Bool.and_false, Bool.false_or]
  cases z : inc a b l p with
  | false => simp
  | true =>
    by_cases e : q' = q
    · rw [e, anyb_no.mpr (fun k hk => ?_)]
      · simp
      · by_cases ek : k = l
        · rw [decide_eq_true ek]; rfl
        · cases y : inc a b k p with
          | false => simp
          | true =>
            by_cases ep : pk k = nI q
            · have := G.2 k l hk hl (mts_iff.mpr ⟨ek, p, y, z⟩) (ep.trans hp.symm)
              rw [ep] at this
              exact absurd this (nI_ne_m1 (by omega))
            · rw [decide_eq_false ep]; simp
    · rw [decide_eq_false e, decide_eq_false (fun y => e ((nI_ne (by omega) (by omega)).mp y).symm)]; simp
theorem PG_neg (G : PG m a b O S pk) {l : Nat} (hl : l < m) : pk l < 0 ↔ pk l = -1 := by
  rcases G.1 l hl with z | ⟨_, q, hq, z, _⟩
  · rw [z]; exact ⟨fun _ => rfl, fun _ => by decide⟩
  · rw [z]
    exact ⟨fun h => absurd h (nI_nlt (a := q) (b := 0) (Nat.zero_le _) (by omega)), fun h => absurd h (nI_ne_m1 (by omega))⟩
theorem sm_fewestWays (M : RM n m a b c σ) (W : Wf n m a b) (A : AL m O σ) (U : US m a b pk σ) (K : PKc m pk σ) (G : PG m a b O S pk) {Q : Int32 → Prop} (h1 : ∀ t, t < m → S t = true → pk t = -1 → Q (nI t)) (h0 : (∀ l, l < m → S l = true → pk l ≠ -1) → Q (-1)) : f_X11_fewestWays (mk S m) σ Q := by
  have hm := W.2.2.1
  unfold f_X11_fewestWays
  refine lf_2_1 m (by omega) (fun k x => (x = -1 ∧ ∀ l, l < k → S l = true → pk l ≠ -1) ∨ ∃ t, t < k ∧ S t = true ∧ pk t = -1 ∧ x = nI t) (Nat.zero_le _) (Or.inl ⟨rfl, fun _ h => absurd h (Nat.not_lt_zero _)⟩) ?_ ?_
  · rintro rec k x hk hI hrec
    rw [M.2.1]
    refine br_f (nI_ge hk (by omega)) ?_
    refine sp_hasM hk (by omega) ?_
    dsimp only [kk_j1, kk_j0]
    have keep : (S k = true → pk k ≠ -1) → rec x (nI k + 1) := fun e => by
      refine hrec _ ?_
      rcases hI with ⟨i1, i2⟩ | ⟨t, i1, i2, i3, i4⟩
      · refine Or.inl ⟨i1, fun l hl => ?_⟩
        by_cases el : l = k
        · rw [el]; exact e
        · exact i2 l (by omega)
      · exact Or.inr ⟨t, by omega, i2, i3, i4⟩
    cases z : S k with
    | false => exact br_t rfl (keep (fun y => by rw [z] at y; cases y))
    | true =>
      refine br_f (by decide) ⟨vp_lt (by omega) (by omega), ?_⟩
      rw [rd_nI (by omega), K k hk]
      constructor
      · intro y
        have y := (PG_neg G hk).mp y
        have new : rec (nI k) (nI k + 1) := hrec _ (Or.inr ⟨k, by omega, z, y, rfl⟩)
        rcases hI with ⟨i1, i2⟩ | ⟨t, i1, i2, i3, rfl⟩
        · exact br_t i1 new
        · refine br_f (nI_ne_m1 (by omega)) ?_
          refine sm_waysOf M W A U hk ?_
          refine sp_bitsOfM (by omega) ?_
          refine sm_waysOf M W A U (show t < m by omega) ?_
          refine sp_bitsOfM (by omega) ?_
          exact ⟨fun _ => hrec _ (Or.inr ⟨t, by omega, i2, i3, rfl⟩), fun _ => new⟩
      · intro y
        exact keep (fun _ e => y ((PG_neg G hk).mpr e))
  · rintro rec x hI
    rw [M.2.1]
    refine br_t (nI_le (Nat.le_refl _) (by omega)) ?_
    rcases hI with ⟨rfl, i2⟩ | ⟨t, i1, i2, i3, rfl⟩
    · exact h0 i2
    · exact h1 t i1 i2 i3
end
