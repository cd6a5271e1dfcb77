/-! two bits a line -/
def m4 (m : Nat) (F : Nat → Bool) : Int32 := mk (fun j => decide (j % 2 = 0) && F (j / 2)) (2 * m)
theorem m4_cong {m : Nat} {F G : Nat → Bool} (h : ∀ l, l < m → F l = G l) : m4 m F = m4 m G := mk_cong (fun j hj => by rw [h (j / 2) (by omega)])
theorem m4_or {m : Nat} (F G : Nat → Bool) : m4 m F ||| m4 m G = m4 m (fun l => F l || G l) := by
  unfold m4
  rw [mk_or]
  exact mk_cong (fun j _ => by cases decide (j % 2 = 0) <;> simp)
theorem m4_and {m : Nat} (F G : Nat → Bool) : m4 m F &&& m4 m G = m4 m (fun l => F l && G l) := by
  unfold m4
  rw [mk_and]
  exact mk_cong (fun j _ => by cases decide (j % 2 = 0) <;> simp)
theorem m4_andn {m : Nat} (F G : Nat → Bool) : m4 m F &&& (m4 m G ^^^ (-1 : Int32)) = m4 m (fun l => F l && !G l) := by
  unfold m4
  rw [mk_andn]
  exact mk_cong (fun j _ => by cases decide (j % 2 = 0) <;> simp)
theorem m4_eq0 {m : Nat} (hm : m ≤ 6) {F : Nat → Bool} : m4 m F = 0 ↔ ∀ l, l < m → F l = false := by
  unfold m4
  rw [mk_eq0 (by omega)]
  constructor
  · intro h l hl
    have := h (2 * l) (by omega)
    rw [show 2 * l % 2 = 0 by omega, show 2 * l / 2 = l by omega] at this
    simpa using this
  · intro h j hj
    rw [h (j / 2) (by omega), Bool.and_false]
theorem m4_one {m l : Nat} (hm : m ≤ 6) (hl : l < m) : (1 : Int32) <<< (nI (2 * l) &&& 31) = m4 m (fun j => decide (j = l)) := by
  rw [mk_one (n := 2 * m) (show 2 * l < 2 * m by omega) (by omega)]
  refine mk_cong (fun j _ => ?_)
  dsimp only
  by_cases e : j = 2 * l
  · rw [decide_eq_true e, decide_eq_true (show j % 2 = 0 by omega), decide_eq_true (show j / 2 = l by omega)]; rfl
  · rw [decide_eq_false e]
    by_cases e2 : j % 2 = 0
    · rw [decide_eq_false (show ¬ j / 2 = l by omega), Bool.and_false]
    · rw [decide_eq_false e2]; rfl
theorem neg_nI {N : Nat} (h : N ≤ 2 ^ 32) : -nI N = nI (2 ^ 32 - N) := by
  have e : nI (2 ^ 32 - N) + nI N = 0 := by
    rw [nI_add, Nat.sub_add_cancel h]; rfl
  have e2 : nI (2 ^ 32 - N) + nI N - nI N = 0 - nI N := by rw [e]
  rw [Int32.add_sub_cancel, Int32.zero_sub] at e2
  exact e2.symm
/-- the lowest bit alone -/
theorem low1 {N s : Nat} (hN : N < 2 ^ 31) (hs : s < 31) (h1 : N.testBit s = true) (h0 : ∀ j, j < s → N.testBit j = false) : nI N &&& (-nI N) = nI (2 ^ s) := by
  obtain ⟨q, hq⟩ := lsb_low h1 h0
  have pos : 0 < N := by
    rw [hq]
    exact Nat.mul_pos (Nat.pow_pos (by omega)) (by omega)
  rw [neg_nI (by omega), fa_and]
  congr 1
  refine Nat.eq_of_testBit_eq (fun i => ?_)
  rw [Nat.testBit_and, show 2 ^ 32 - N = 2 ^ 32 - ((N - 1) + 1) by omega, Nat.testBit_two_pow_sub_succ (show N - 1 < 2 ^ 32 by omega), Nat.testBit_two_pow]
  have p2 : 0 < 2 ^ s := Nat.pow_pos (by omega)
  have e1 : N - 1 = 2 ^ s * (2 * q) + (2 ^ s - 1) := by
    rw [hq, Nat.mul_add, Nat.mul_one]
    omega
  rw [e1, Nat.testBit_two_pow_mul_add _ (by omega)]
  rcases Nat.lt_trichotomy i s with e | e | e
  · rw [h0 i e, Bool.false_and, decide_eq_false (show ¬ s = i by omega)]
  · subst e
    rw [h1, if_neg (Nat.lt_irrefl _), Nat.sub_self, decide_eq_true (show i < 32 by omega), decide_eq_true rfl]
    simp
  · rw [if_neg (by omega), decide_eq_false (show ¬ s = i by omega), hq, Nat.testBit_two_pow_mul, decide_eq_true (show i ≥ s by omega)]
    obtain ⟨d, hd⟩ : ∃ d, i - s = d + 1 := ⟨i - s - 1, by omega⟩
    rw [hd, Nat.testBit_succ, Nat.testBit_succ, show (2 * q + 1) / 2 = q by omega, show 2 * q / 2 = q by omega]
    cases q.testBit d <;> simp
theorem m4_low {m t : Nat} (hm : m ≤ 6) {F : Nat → Bool} (ht : t < m) (h1 : F t = true) (h0 : ∀ l, l < t → F l = false) : m4 m F &&& (-(m4 m F)) = m4 m (fun l => decide (l = t)) := by
  rw [← m4_one hm ht, z_pow (by omega)]
  show nI (mN _ (2 * m)) &&& (-nI (mN _ (2 * m))) = _
  refine low1 (mk_pos (by omega)) (by omega) ?_ (fun j hj => ?_)
  · rw [mN_bit, show 2 * t / 2 = t by omega, h1, decide_eq_true (show 2 * t < 2 * m by omega), decide_eq_true (show 2 * t % 2 = 0 by omega)]; rfl
  · rw [mN_bit]
    by_cases e : j % 2 = 0
    · rw [h0 (j / 2) (by omega)]; simp
    · rw [decide_eq_false e]; simp
theorem sp_low4 {m t : Nat} (hm : m ≤ 6) {F : Nat → Bool} (ht : t < m) (h1 : F t = true) (h0 : ∀ l, l < t → F l = false) {Q : Int32 → Prop} (h : Q (m4 m (fun l => decide (l = t)))) : f_J6_lowestOneBit_0f7a4 (m4 m F) Q := by
  unfold f_J6_lowestOneBit_0f7a4
  rw [m4_low hm ht h1 h0]
  exact h
theorem sp_ntz4 {m t : Nat} (hm : m ≤ 6) (ht : t < m) {Q : Int32 → Prop} (h : Q (nI (2 * t))) : f_J6_numberOfTrailingZeros_0f7a4 (m4 m (fun l => decide (l = t))) Q := by
  refine sp_ntzM (by omega) (show 2 * t < 2 * m by omega) ?_ (fun j hj => ?_) h
  · dsimp only
    rw [decide_eq_true (show 2 * t % 2 = 0 by omega), decide_eq_true (show 2 * t / 2 = t by omega)]; rfl
  · dsimp only
    by_cases e : j % 2 = 0
    · rw [decide_eq_false (show ¬ j / 2 = t by omega), Bool.and_false]
    · rw [decide_eq_false e]; rfl
/-- bits are those of the digits -/
theorem tb4 (c i : Nat) : c.testBit i = (dgt 4 c (i / 2)).testBit (i % 2) := by
  unfold dgt
  have e : (4 : Nat) ^ (i / 2) = 2 ^ (2 * (i / 2)) := by rw [Nat.pow_mul]
  rw [e, show (4 : Nat) = 2 ^ 2 from rfl, Nat.testBit_mod_two_pow, Nat.testBit_div_two_pow, decide_eq_true (show i % 2 < 2 by omega), Bool.true_and]
  congr 1
  omega
theorem p4_le {m : Nat} (hm : m ≤ 6) : 4 ^ m ≤ 4096 := Nat.pow_le_pow_right (n := 4) (by omega) hm
theorem dgt_out {m c l : Nat} (hc : c < 4 ^ m) (hl : m ≤ l) : dgt 4 c l = 0 := by
  unfold dgt
  rw [Nat.div_eq_of_lt (Nat.lt_of_lt_of_le hc (Nat.pow_le_pow_right (by omega) hl))]
theorem v1365 : ∀ v, v < 4 → ∀ j, j < 12 → (v * 1365).testBit j = v.testBit (j % 2) := by decide
theorem q4 : ∀ q, q < 4 → ∀ v, v < 4 → (!((q.testBit 0 ^^ v.testBit 0) || (q.testBit 1 ^^ v.testBit 1))) = decide (q = v) := by decide
theorem b1365 : ∀ j, j < 32 → bt (1365 : Int32) j = decide (j % 2 = 0 ∧ j < 12) := by decide
theorem fa_xor (x y : Nat) : nI x ^^^ nI y = nI (x ^^^ y) := b_ext (fun i hi => by rw [b_xor, bt_nI i hi, bt_nI i hi, bt_nI i hi, Nat.testBit_xor])
section
variable {n m : Nat} {a b : Nat → Nat} {σ : kk_St}
theorem sc_linesWith (N : RN n m a b σ) (hm : m ≤ 6) {c v : Nat} (hc : c < 4 ^ m) (hv : v < 4) {Q : Int32 → Prop} (h : Q (m4 m (fun l => decide (dgt 4 c l = v)))) : f_X9_linesWith (nI c) (nI v) σ Q := by
  have p4 := p4_le hm
  unfold f_X9_linesWith
  have xl : c ^^^ (v * 1365) < 2 ^ 12 := Nat.xor_lt_two_pow (by omega) (by omega)
  rw [show (1365 : Int32) = nI 1365 from rfl, z_mul, fa_xor]
  rintro _ rfl
  rw [show (1 : Int32) &&& 31 = nI 1 &&& 31 from rfl, z_sshr (by omega) (by omega), N.2.1, show (2 : Int32) = nI 2 from rfl, z_mul]
  have e : (((nI (c ^^^ (v * 1365)) ||| nI ((c ^^^ (v * 1365)) / 2 ^ 1)) ^^^ (-1 : Int32)) &&& nI 1365) &&& (((1 : Int32) <<< (nI (2 * m) &&& 31)) - 1) = m4 m (fun l => decide (dgt 4 c l = v)) := by
    refine mk_ext (fun j hj => ?_)
    rw [b_and, b_and, z_not _ hj, b_or, bt_nI j hj, bt_nI j hj, show nI 1365 = (1365 : Int32) from rfl, b1365 j hj, z_ones_bt (by omega) hj, Nat.pow_one, ← Nat.testBit_succ]
    by_cases e1 : j < 2 * m
    · rw [decide_eq_true e1, Bool.true_and, Bool.and_true]
      by_cases e2 : j % 2 = 0
      · rw [decide_eq_true e2, decide_eq_true (show j % 2 = 0 ∧ j < 12 by omega), Bool.true_and, Bool.and_true, Nat.testBit_xor, Nat.testBit_xor, tb4 c j, tb4 c (j + 1), v1365 v hv j (by omega), v1365 v hv (j + 1) (by omega), e2, show (j + 1) / 2 = j / 2 by omega, show (j + 1) % 2 = 1 by omega]
        exact q4 _ (dgt_lt (by omega)) v hv
      · rw [decide_eq_false e2, decide_eq_false (show ¬ (j % 2 = 0 ∧ j < 12) by omega)]; simp
    · rw [decide_eq_false e1]; simp
  rw [e]
  exact h
/-- the masks of meeting lines, spread -/
def MT (m : Nat) (a b : Nat → Nat) (σ : kk_St) : Prop := ∀ l, l < m → σ.1 27 l = m4 m (mts a b l)
theorem sc_joinedIn (hm : m ≤ 6) (H : MT m a b σ) {t : Nat} {P : Nat → Bool} (ht : t < m) (hp : P t = true) {Q : Int32 → Prop} (h : Q (m4 m (rch m a b P (fun k => decide (k = t))))) : f_X9_joinedIn (m4 m (fun l => decide (l = t))) (m4 m P) σ Q := by
  unfold f_X9_joinedIn
  dsimp only [kk_j1]
  refine kk_lpI3 (fun g x i => ∃ (G X : Nat → Bool) (u : Nat), g = m4 m G ∧ x = m4 m X ∧ i = nI u ∧ u ≤ 6 ∧ (∀ k, k < m → X k = true → G k = true) ∧ G t = true ∧ (∀ k, k < m → G k = true → rch m a b P (fun k => decide (k = t)) k = true) ∧ (∀ k j, k < m → j < m → G k = true → X k = false → P j = true → mts a b k j = true → G j = true) ∧ fb_ct (fun k => G k && !X k) m = u) (fun _ _ i => 6 - i.toNatClampNeg) ?_ ?h0
  case h0 =>
    refine ⟨fun k => decide (k = t), fun k => decide (k = t), 0, rfl, rfl, rfl, by omega, fun _ _ h => h, decide_eq_true rfl, ?_, ?_, ?_⟩
    · intro k hk hg
      have hg := of_decide_eq_true hg
      rw [hg]
      exact rch_start ht hp (decide_eq_true rfl)
    · intro k j hk hj hg hx
      rw [hg] at hx; cases hx
    · exact fb_ct_zero.mpr (fun k _ => Bool.and_not_self _)
  rintro rec g x i ⟨G, X, u, rfl, rfl, rfl, hu, i1, i2, i3, i4, i5⟩ hrec
  have done : (∀ k, k < m → X k = false) → Q (m4 m G) := by
    intro hX
    have := rch_eq (G := G) (P := P) (s := fun k => decide (k = t)) (m := m) (a := a) (b := b) (fun k _ _ hs => by rw [of_decide_eq_true hs]; exact i2) (fun k j hk hj hp hg hmt => i4 k j hk hj hg (hX k hk) hp hmt) i3
    rw [m4_cong this]
    exact h
  by_cases hu6 : u = 6
  · refine br_t (by rw [hu6]; exact nI_le (a := 6) (Nat.le_refl _) (by omega)) (done ?_)
    intro k hk
    have hle := fb_ct_le (fun k => G k && !X k) m
    have hall := (fb_ct_all (p := fun k => G k && !X k) (n := m)).mp (by omega) k hk
    simp only [Bool.and_eq_true, Bool.not_eq_true'] at hall
    exact hall.2
  · refine br_f (nI_ge (b := 6) (show u < 6 by omega) (by omega)) ?_
    rcases fst_ex X m with ⟨l, hl, h1, h0⟩ | h0
    · have hne : ¬ m4 m X = 0 := fun z => by
        have := (m4_eq0 hm).mp z l hl
        rw [h1] at this; cases this
      refine br_f hne (sp_low4 hm hl h1 h0 (sp_ntz4 hm hl ?_))
      rw [(half (2 * l) (by omega)).1, show 2 * l / 2 = l by omega]
      refine ⟨vp_lt (by omega) (by omega), ?_⟩
      intro mo e1 x' e2
      rw [rd_nI (by omega), H l hl, m4_and, m4_andn] at e1
      rw [m4_andn, e1, m4_or] at e2
      subst e2
      rw [e1, m4_or]
      have hGl := i1 l hl h1
      have hct : fb_ct (fun k => (G k || (mts a b l k && P k && !G k)) && !(X k && !decide (k = l) || (mts a b l k && P k && !G k))) m = u + 1 := by
        have e : ∀ k, k < m → ((G k || (mts a b l k && P k && !G k)) && !(X k && !decide (k = l) || (mts a b l k && P k && !G k))) = (if k = l then true else (G k && !X k)) := by
          intro k hk
          by_cases hkl : k = l
          · subst hkl
            rw [hGl]
            simp
          · rw [if_neg hkl]
            have : decide (k = l) = false := decide_eq_false hkl
            rw [this]
            have h9 := i1 k hk
            cases hG : G k <;> cases hX : X k <;> simp_all
        rw [fb_ct_cong e]
        have := fb_ct_upd (fun k => G k && !X k) true (i := l) (n := m) hl
        rw [i5, h1, hGl] at this
        simpa using this
      refine hrec _ _ _ ⟨_, _, u + 1, rfl, rfl, nI_1 u, by omega, ?_, ?_, ?_, ?_, hct⟩ (by rw [nI_1, nI_clamp (by omega), nI_clamp (by omega)]; omega)
      · intro k hk hx
        simp only [Bool.or_eq_true, Bool.and_eq_true] at hx ⊢
        rcases hx with hx | hx
        · exact Or.inl (i1 k hk hx.1)
        · exact Or.inr hx
      · rw [i2]; rfl
      · intro k hk hg
        simp only [Bool.or_eq_true, Bool.and_eq_true] at hg
        rcases hg with hg | hg
        · exact i3 k hk hg
        · exact rch_step (i3 l hl hGl) hk hg.1.2 hg.1.1
      · intro k j hk hj hg hx hp hmt
        simp only [Bool.or_eq_false_iff] at hx
        by_cases hkl : k = l
        · subst hkl
          cases hGj : G j with
          | true => rfl
          | false => simp [hmt, hp]
        · have hXk : X k = false := by
            have := hx.1
            rw [decide_eq_false hkl] at this
            simpa using this
          have hGk : G k = true := by
            rw [hx.2, Bool.or_false] at hg
            exact hg
          rw [i4 k j hk hj hGk hXk hp hmt]; rfl
    · exact br_t ((m4_eq0 hm).mpr h0) (done h0)
end
/-- a turn of a chain, by bits -/
theorem m4_en {m : Nat} (hm : m ≤ 6) (F : Nat → Bool) : m4 m F = nI (en 4 (fun l => if F l then 1 else 0) m) := by
  unfold m4 mk
  congr 1
  have el : en 4 (fun l => if F l then 1 else 0) m < 4 ^ m := en_lt (fun l _ => by split <;> omega)
  refine Nat.eq_of_testBit_eq (fun i => ?_)
  rw [mN_bit, tb4 (en 4 _ m) i]
  by_cases e : i < 2 * m
  · rw [decide_eq_true e, Bool.true_and, en_dgt (by omega) (fun l _ => by split <;> omega) (i / 2) (by omega)]
    by_cases e2 : i % 2 = 0
    · rw [decide_eq_true e2, e2, Bool.true_and]
      cases F (i / 2) <;> rfl
    · rw [decide_eq_false e2, show i % 2 = 1 by omega]
      cases F (i / 2) <;> rfl
  · rw [decide_eq_false e, dgt_out el (by omega)]
    simp
theorem en_mul {B d : Nat} (F : Nat → Bool) : ∀ m, en B (fun l => if F l then 1 else 0) m * d = en B (fun l => if F l then d else 0) m
  | 0 => by show 0 * d = 0; omega
  | m + 1 => by
    show (en B _ m + (if F m then 1 else 0) * B ^ m) * d = en B _ m + (if F m then d else 0) * B ^ m
    rw [Nat.add_mul, en_mul F m]
    cases F m
    · simp
    · simp [Nat.mul_comm]
theorem x4 : ∀ o, o < 4 → ∀ w, w < 4 → o ^^^ w < 4 ∧ o ^^^ (o ^^^ w) = w ∧ w ^^^ (o ^^^ w) = o := by decide
theorem turn4 {m c o w : Nat} (hm : m ≤ 6) (hc : c < 4 ^ m) (ho : o < 4) (hw : w < 4) {C : Nat → Bool} (hC : ∀ l, l < m → C l = true → dgt 4 c l = o ∨ dgt 4 c l = w) : nI c ^^^ (m4 m C * (nI o ^^^ nI w)) = nI (en 4 (fl (dgt 4 c) C o w) m) := by
  obtain ⟨x1, x2, x3⟩ := x4 o ho w hw
  rw [m4_en hm, fa_xor, z_mul, en_mul, fa_xor]
  congr 1
  have b1 : ∀ l, l < m → (if C l then o ^^^ w else 0) < 4 := fun l _ => by split <;> omega
  have b2 : ∀ l, l < m → fl (dgt 4 c) C o w l < 4 := fun l _ => by
    have := dgt_lt (B := 4) (c := c) (l := l) (by omega)
    unfold fl
    split
    · split <;> omega
    · exact this
  have l1 := en_lt b1
  have l2 := en_lt b2
  refine Nat.eq_of_testBit_eq (fun i => ?_)
  rw [Nat.testBit_xor, tb4 c i, tb4 (en 4 (fun l => if C l then o ^^^ w else 0) m) i, tb4 (en 4 (fl (dgt 4 c) C o w) m) i]
  by_cases e : i / 2 < m
  · rw [en_dgt (by omega) b1 _ e, en_dgt (by omega) b2 _ e, ← Nat.testBit_xor]
    congr 1
    unfold fl
    cases z : C (i / 2) with
    | false => simp
    | true =>
      rw [if_pos rfl, if_pos rfl]
      rcases hC _ e z with y | y
      · rw [y, if_pos rfl]; exact x2
      · by_cases ow : w = o
        · rw [y, if_pos ow, ow]; simp
        · rw [y, if_neg ow]; exact x3
  · rw [dgt_out hc (by omega), dgt_out l1 (by omega), dgt_out l2 (by omega)]; simp
