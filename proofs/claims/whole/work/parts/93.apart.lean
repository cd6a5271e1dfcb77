/-! pair: apart -/
theorem mN_cong {f g : Nat → Bool} : ∀ {w : Nat}, (∀ j, j < w → f j = g j) → mN f w = mN g w
  | 0, _ => rfl
  | w + 1, h => by
    show mN f w + _ = mN g w + _
    rw [mN_cong (fun j hj => h j (by omega)), h w (by omega)]
theorem mN_ads {S : Nat → Bool} {k : Nat} (h : S k = false) : ∀ {w : Nat}, k < w → mN (ads S k) w = mN S w + 2 ^ k
  | 0, hk => absurd hk (Nat.not_lt_zero _)
  | w + 1, hk => by
    show mN (ads S k) w + _ = mN S w + _ + 2 ^ k
    by_cases e : k = w
    · subst e
      have e1 : mN (ads S k) k = mN S k := mN_cong (fun j hj => by unfold ads; rw [decide_eq_false (by omega), Bool.or_false])
      have e2 : ads S k k = true := by unfold ads; simp
      rw [e1, e2, h]
      simp
    · rw [mN_ads h (show k < w by omega)]
      have e2 : ads S k w = S w := by unfold ads; rw [decide_eq_false (by omega), Bool.or_false]
      rw [e2]
      omega
theorem mN_tail {S : Nat → Bool} {k : Nat} : ∀ {w : Nat}, k ≤ w → (∀ j, k ≤ j → j < w → S j = false) → mN S w = mN S k
  | 0, hk, _ => by rw [Nat.le_zero.mp hk]
  | w + 1, hk, h => by
    by_cases e : k = w + 1
    · rw [e]
    · show mN S w + _ = _
      rw [h w (by omega) (by omega), mN_tail (show k ≤ w by omega) (fun j h1 h2 => h j h1 (by omega))]
      rfl
theorem ct_ads {S : Nat → Bool} {k w : Nat} (h : S k = false) (hk : k < w) : fb_ct (ads S k) w = fb_ct S w + 1 := by
  have := fb_ct_upd S true (i := k) (n := w) hk
  rw [h] at this
  have e : fb_ct (fun j => if j = k then true else S j) w = fb_ct (ads S k) w := fb_ct_cong (fun j _ => by
    unfold ads
    by_cases e : j = k
    · rw [if_pos e, decide_eq_true e, Bool.or_true]
    · rw [if_neg e, decide_eq_false e, Bool.or_false])
  rw [e] at this
  simpa using this
theorem ads_no {S : Nat → Bool} {k : Nat} (h : S k = true) : ads (Sno S k) k = S := by
  funext l
  unfold ads Sno
  by_cases e : l = k
  · rw [e, h]; simp
  · rw [decide_eq_false e]; simp
section
variable (m : Nat) (a b : Nat → Nat)
def Mat (k R : Nat) (S : Nat → Bool) : Prop := (∀ l, S l = true → l < k ∧ R.testBit (a l) = true ∧ R.testBit (b l) = true) ∧ ∀ i j, S i = true → S j = true → mts a b i j = false
def Ap : Nat → Nat → Nat
  | 0, _ => 0
  | k + 1, R => if (R.testBit (a k) && R.testBit (b k)) = true ∧ Ap k R < 1 + Ap k (wo a b k R) then 1 + Ap k (wo a b k R) else Ap k R
def Dp : Nat → Nat → Nat → Bool
  | 0, _ => noB
  | k + 1, R => if Ap a b k R = Ap a b (k + 1) R then Dp k R else ads (Dp k (wo a b k R)) k
end
section
variable {n m : Nat} {a b : Nat → Nat} {σ : kk_St} {c : Nat → Int32}
theorem Ap_le : ∀ k R, Ap a b k R ≤ k
  | 0, _ => Nat.le_refl _
  | k + 1, R => by
    have h1 := Ap_le k R
    have h2 := Ap_le k (wo a b k R)
    by_cases hx : (R.testBit (a k) && R.testBit (b k)) = true ∧ Ap a b k R < 1 + Ap a b k (wo a b k R)
    · have e : Ap a b (k + 1) R = 1 + Ap a b k (wo a b k R) := if_pos hx
      omega
    · have e : Ap a b (k + 1) R = Ap a b k R := if_neg hx
      omega
theorem Mat_up {k R : Nat} {S : Nat → Bool} (h : Mat a b k R S) : Mat a b (k + 1) R S := ⟨fun l hl => by
  obtain ⟨h1, h2⟩ := h.1 l hl
  exact ⟨by omega, h2⟩, h.2⟩
theorem Mat_dn {k R : Nat} {S : Nat → Bool} (h : Mat a b (k + 1) R S) (hk : S k = false) : Mat a b k R S := by
  refine ⟨fun l hl => ?_, h.2⟩
  obtain ⟨h1, h2⟩ := h.1 l hl
  refine ⟨?_, h2⟩
  rcases Nat.lt_or_ge l k with e | e
  · exact e
  · rw [show l = k by omega, hk] at hl; cases hl
theorem Mat_del (W : Wf n m a b) {k R : Nat} {S : Nat → Bool} (hk : k < m) (h : Mat a b (k + 1) R S) (hs : S k = true) : (R.testBit (a k) && R.testBit (b k)) = true ∧ Mat a b k (wo a b k R) (Sno S k) := by
  have hn := W.2.1
  have out : ∀ l, Sno S k l = true → S l = true ∧ l ≠ k := fun l h => by
    unfold Sno at h
    simpa using h
  refine ⟨by rw [(h.1 k hs).2.1, (h.1 k hs).2.2]; rfl, fun l hl => ?_, fun i j hi hj => h.2 i j (out i hi).1 (out j hj).1⟩
  obtain ⟨o1, o2⟩ := out l hl
  obtain ⟨h1, h2, h3⟩ := h.1 l o1
  have hw := W.2.2.2.1 l (by omega)
  have mt := h.2 k l hs o1
  have ne : ∀ p, inc a b l p = true → p ≠ a k ∧ p ≠ b k := fun p hp => by
    refine ⟨fun z => ?_, fun z => ?_⟩
    · rw [mts_iff.mpr ⟨Ne.symm o2, p, inc_iff.mpr (Or.inl z.symm), hp⟩] at mt; cases mt
    · rw [mts_iff.mpr ⟨Ne.symm o2, p, inc_iff.mpr (Or.inr z.symm), hp⟩] at mt; cases mt
  obtain ⟨n1, n2⟩ := ne (a l) (inc_iff.mpr (Or.inl rfl))
  obtain ⟨n3, n4⟩ := ne (b l) (inc_iff.mpr (Or.inr rfl))
  refine ⟨by omega, ?_, ?_⟩
  · rw [wo_bit, h2, decide_eq_true (show a l < 9 by omega), decide_eq_false n1, decide_eq_false n2]; rfl
  · rw [wo_bit, h3, decide_eq_true (show b l < 9 by omega), decide_eq_false n3, decide_eq_false n4]; rfl
theorem Mat_add {k R : Nat} {S : Nat → Bool} (ht : (R.testBit (a k) && R.testBit (b k)) = true) (h : Mat a b k (wo a b k R) S) : Mat a b (k + 1) R (ads S k) := by
  have ht := Bool.and_eq_true _ _ ▸ ht
  have inS : ∀ l, ads S k l = true → S l = true ∨ l = k := fun l h => by
    unfold ads at h
    simpa using h
  have bit : ∀ p, (wo a b k R).testBit p = true → R.testBit p = true ∧ p ≠ a k ∧ p ≠ b k := fun p hp => by
    rw [wo_bit] at hp
    simp only [Bool.and_eq_true, decide_eq_true_eq, Bool.not_eq_true', decide_eq_false_iff_not] at hp
    exact ⟨hp.2.1.1, hp.2.1.2, hp.2.2⟩
  have no : ∀ l, S l = true → mts a b k l = false := fun l hl => by
    obtain ⟨h1, h2, h3⟩ := h.1 l hl
    obtain ⟨_, x1, x2⟩ := bit _ h2
    obtain ⟨_, y1, y2⟩ := bit _ h3
    cases z : mts a b k l with
    | false => rfl
    | true =>
      obtain ⟨_, p, p1, p2⟩ := mts_iff.mp z
      rcases inc_iff.mp p1 with u | u <;> rcases inc_iff.mp p2 with v | v <;> omega
  refine ⟨fun l hl => ?_, fun i j hi hj => ?_⟩
  · rcases inS l hl with z | z
    · obtain ⟨h1, h2, h3⟩ := h.1 l z
      exact ⟨by omega, (bit _ h2).1, (bit _ h3).1⟩
    · rw [z]; exact ⟨by omega, ht.1, ht.2⟩
  · rcases inS i hi with z | z
    · rcases inS j hj with y | y
      · exact h.2 i j z y
      · rw [y, mts_comm]; exact no i z
    · rcases inS j hj with y | y
      · rw [z]; exact no j y
      · rw [z, y]; unfold mts; simp
theorem Mat_num {k R : Nat} {S : Nat → Bool} (hk : k ≤ m) (h : Mat a b k R S) : mN S m < 2 ^ k := by
  rw [mN_tail hk (fun j h1 _ => by
    cases z : S j with
    | false => rfl
    | true => have := (h.1 j z).1; omega)]
  exact mN_lt S k
theorem Dp_ok (W : Wf n m a b) : ∀ k, k ≤ m → ∀ R, Mat a b k R (Dp a b k R) ∧ fb_ct (Dp a b k R) m = Ap a b k R ∧ ∀ S, Mat a b k R S → fb_ct S m ≤ Ap a b k R ∧ (fb_ct S m = Ap a b k R → mN (Dp a b k R) m ≤ mN S m)
  | 0, _, R => by
    have e0 : ∀ S : Nat → Bool, Mat a b 0 R S → fb_ct S m = 0 ∧ mN S m = 0 := fun S h => by
      have n : ∀ l, S l = false := fun l => by
        cases z : S l with
        | false => rfl
        | true => exact absurd (h.1 l z).1 (Nat.not_lt_zero _)
      refine ⟨fb_ct_zero.mpr (fun l _ => n l), ?_⟩
      exact mN_tail (Nat.zero_le _) (fun l _ _ => n l)
    have m0 : Mat a b 0 R noB := ⟨fun _ h => (by cases h), fun _ _ h => (by cases h)⟩
    refine ⟨m0, (e0 _ m0).1, fun S h => ⟨by rw [(e0 S h).1]; exact Nat.le_refl _, fun _ => ?_⟩⟩
    show mN noB m ≤ _
    rw [(e0 _ m0).2]; exact Nat.zero_le _
  | k + 1, hk, R => by
    obtain ⟨p1, p2, p3⟩ := Dp_ok W k (by omega) R
    obtain ⟨q1, q2, q3⟩ := Dp_ok W k (by omega) (wo a b k R)
    have del : ∀ S, Mat a b (k + 1) R S → S k = true → (R.testBit (a k) && R.testBit (b k)) = true ∧ Mat a b k (wo a b k R) (Sno S k) ∧ fb_ct S m = fb_ct (Sno S k) m + 1 ∧ mN S m = mN (Sno S k) m + 2 ^ k := fun S h hs => by
      obtain ⟨d1, d2⟩ := Mat_del W (by omega) h hs
      have s0 : Sno S k k = false := by unfold Sno; simp
      refine ⟨d1, d2, ?_, ?_⟩
      · rw [← ct_ads s0 (show k < m by omega), ads_no hs]
      · rw [← mN_ads s0 (show k < m by omega), ads_no hs]
    by_cases hx : (R.testBit (a k) && R.testBit (b k)) = true ∧ Ap a b k R < 1 + Ap a b k (wo a b k R)
    · have eA : Ap a b (k + 1) R = 1 + Ap a b k (wo a b k R) := if_pos hx
      have eD : Dp a b (k + 1) R = ads (Dp a b k (wo a b k R)) k := if_neg (by rw [eA]; omega)
      have d0 : Dp a b k (wo a b k R) k = false := by
        cases z : Dp a b k (wo a b k R) k with
        | false => rfl
        | true => exact absurd (q1.1 k z).1 (Nat.lt_irrefl _)
      rw [eD, eA]
      refine ⟨Mat_add hx.1 q1, by rw [ct_ads d0 (show k < m by omega), q2]; omega, fun S h => ?_⟩
      cases z : S k with
      | false =>
        have := (p3 S (Mat_dn h z)).1
        exact ⟨by omega, fun e => by omega⟩
      | true =>
        obtain ⟨d1, d2, d3, d4⟩ := del S h z
        obtain ⟨r1, r2⟩ := q3 _ d2
        refine ⟨by omega, fun e => ?_⟩
        rw [mN_ads d0 (show k < m by omega), d4]
        have := r2 (by omega)
        omega
    · have eA : Ap a b (k + 1) R = Ap a b k R := if_neg hx
      have eD : Dp a b (k + 1) R = Dp a b k R := if_pos eA.symm
      rw [eD, eA]
      refine ⟨Mat_up p1, p2, fun S h => ?_⟩
      cases z : S k with
      | false => exact p3 S (Mat_dn h z)
      | true =>
        obtain ⟨d1, d2, d3, d4⟩ := del S h z
        obtain ⟨r1, r2⟩ := q3 _ d2
        have : ¬ Ap a b k R < 1 + Ap a b k (wo a b k R) := fun y => hx ⟨d1, y⟩
        refine ⟨by omega, fun _ => ?_⟩
        have := Mat_num (m := m) (by omega) p1
        omega
/-- the gathered sets are those of lines apart -/
def RH (m : Nat) (a b : Nat → Nat) (i : Nat) (B G : Nat → Bool) (t Y : Nat) : Prop := ∃ S : Nat → Bool, Y = mN S m ∧ (∀ l, l < i → S l = G l) ∧ (∀ l, i ≤ l → l < m → S l = true → B l = false) ∧ (∀ x y, i ≤ x → x < m → i ≤ y → y < m → S x = true → S y = true → mts a b x y = false) ∧ fb_ct (fun l => S l && decide (i ≤ l)) m = t
theorem RH_st {i : Nat} {B G : Nat → Bool} {t Y : Nat} (hi : i < m) (hG : G i = false) : RH m a b i B G t Y ↔ (RH m a b (i + 1) B G t Y ∨ (B i = false ∧ ∃ t', t = t' + 1 ∧ RH m a b (i + 1) (bs a b B i) (ads G i) t' Y)) := by
  have cf : ∀ S : Nat → Bool, S i = false → fb_ct (fun l => S l && decide (i ≤ l)) m = fb_ct (fun l => S l && decide (i + 1 ≤ l)) m := fun S h => fb_ct_cong (fun l _ => by
    by_cases e : l = i
    · rw [e, h]; rfl
    · by_cases e2 : i ≤ l
      · rw [decide_eq_true e2, decide_eq_true (show i + 1 ≤ l by omega)]
      · rw [decide_eq_false e2, decide_eq_false (show ¬ i + 1 ≤ l by omega)])
  have ctt : ∀ S : Nat → Bool, S i = true → fb_ct (fun l => S l && decide (i ≤ l)) m = fb_ct (fun l => S l && decide (i + 1 ≤ l)) m + 1 := fun S h => by
    have := ct_ads (S := fun l => S l && decide (i + 1 ≤ l)) (k := i) (w := m) (by rw [decide_eq_false (show ¬ i + 1 ≤ i by omega), Bool.and_false]) hi
    rw [← this]
    refine fb_ct_cong (fun l _ => ?_)
    unfold ads
    by_cases e : l = i
    · rw [e, h, decide_eq_true (Nat.le_refl i)]; simp
    · rw [decide_eq_false e, Bool.or_false]
      dsimp only
      by_cases e2 : i ≤ l
      · rw [decide_eq_true e2, decide_eq_true (show i + 1 ≤ l by omega)]
      · rw [decide_eq_false e2, decide_eq_false (show ¬ i + 1 ≤ l by omega)]
  constructor
  · rintro ⟨S, s1, s2, s3, s4, s5⟩
    cases z : S i with
    | false =>
      refine Or.inl ⟨S, s1, fun l hl => ?_, fun l h1 h2 => s3 l (by omega) h2, fun x y h1 h2 h3 h4 => s4 x y (by omega) h2 (by omega) h4, by rw [← cf S z]; exact s5⟩
      by_cases e : l = i
      · rw [e, z, hG]
      · exact s2 l (by omega)
    | true =>
      refine Or.inr ⟨s3 i (Nat.le_refl _) hi z, fb_ct (fun l => S l && decide (i + 1 ≤ l)) m, by rw [← ctt S z]; exact s5.symm, S, s1, fun l hl => ?_, fun l h1 h2 h3 => ?_, fun x y h1 h2 h3 h4 => s4 x y (by omega) h2 (by omega) h4, rfl⟩
      · unfold ads
        by_cases e : l = i
        · rw [e, z]; simp
        · rw [decide_eq_false e, Bool.or_false]; exact s2 l (by omega)
      · unfold bs
        rw [s3 l (by omega) h2 h3, s4 i l (Nat.le_refl _) hi (by omega) h2 z h3]; rfl
  · rintro (⟨S, s1, s2, s3, s4, s5⟩ | ⟨hb, t', ht, S, s1, s2, s3, s4, s5⟩)
    · have z : S i = false := by rw [s2 i (by omega), hG]
      have ge : ∀ l, i ≤ l → S l = true → i + 1 ≤ l := fun l h1 h2 => by
        rcases Nat.lt_or_ge i l with y | y
        · exact y
        · rw [show l = i by omega, z] at h2; cases h2
      exact ⟨S, s1, fun l hl => s2 l (by omega), fun l h1 h2 h3 => s3 l (ge l h1 h3) h2 h3, fun x y h1 h2 h3 h4 h5 h6 => s4 x y (ge x h1 h5) h2 (ge y h3 h6) h4 h5 h6, by rw [cf S z]; exact s5⟩
    · have z : S i = true := by rw [s2 i (by omega)]; unfold ads; simp
      have g : ∀ l, i + 1 ≤ l → l < m → S l = true → B l = false ∧ mts a b i l = false := fun l h1 h2 h3 => by
        have := s3 l h1 h2 h3
        unfold bs at this
        simpa using this
      refine ⟨S, s1, fun l hl => ?_, fun l h1 h2 h3 => ?_, fun x y h1 h2 h3 h4 h5 h6 => ?_, by rw [ctt S z, s5]; exact ht.symm⟩
      · rw [s2 l (by omega)]; unfold ads; rw [decide_eq_false (by omega), Bool.or_false]
      · by_cases e : l = i
        · rw [e]; exact hb
        · exact (g l (by omega) h2 h3).1
      · by_cases e : x = i
        · by_cases e2 : y = i
          · rw [e, e2]; unfold mts; simp
          · rw [e]; exact (g y (by omega) h4 h6).2
        · by_cases e2 : y = i
          · rw [e2, mts_comm]; exact (g x (by omega) h2 h5).2
          · exact s4 x y (by omega) h2 (by omega) h4 h5 h6
theorem Ec_iff : ∀ k, k ≤ m → ∀ (B G : Nat → Bool) (t Y : Nat), (∀ l, m - k ≤ l → l < m → G l = false) → (Ec m a b k B G t Y ↔ RH m a b (m - k) B G t Y)
  | 0, _, B, G, t, Y, hG => by
    rw [Nat.sub_zero]
    constructor
    · rintro ⟨h1, h2⟩
      refine ⟨G, h2, fun _ _ => rfl, fun l h1 h2 => by omega, fun x _ h1 h2 => by omega, ?_⟩
      rw [h1]
      exact fb_ct_zero.mpr (fun l hl => by rw [decide_eq_false (show ¬ m ≤ l by omega), Bool.and_false])
    · rintro ⟨S, s1, s2, s3, s4, s5⟩
      refine ⟨?_, by rw [s1]; exact mN_cong s2⟩
      rw [← s5]
      exact fb_ct_zero.mpr (fun l hl => by rw [decide_eq_false (show ¬ m ≤ l by omega), Bool.and_false])
  | k + 1, hk, B, G, t, Y, hG => by
    have e1 : m - k = m - (k + 1) + 1 := by omega
    have e2 : m - 1 - k = m - (k + 1) := by omega
    rw [RH_st (show m - (k + 1) < m by omega) (hG _ (Nat.le_refl _) (by omega)), ← e1]
    have i1 := Ec_iff k (by omega) B G t Y (fun l h1 h2 => hG l (by omega) h2)
    have i2 := fun t' => Ec_iff k (by omega) (bs a b B (m - (k + 1))) (ads G (m - (k + 1))) t' Y (fun l h1 h2 => by
      unfold ads
      rw [hG l (by omega) h2, decide_eq_false (by omega)]; rfl)
    rw [← i1]
    cases t with
    | zero =>
      show Ec m a b k B G 0 Y ↔ _
      exact ⟨fun h => Or.inl h, fun h => by
        rcases h with h | ⟨_, t', h, _⟩
        · exact h
        · omega⟩
    | succ t =>
      show (Ec m a b k B G (t + 1) Y ∨ (B (m - 1 - k) = false ∧ Ec m a b k (bs a b B (m - 1 - k)) (ads G (m - 1 - k)) t Y)) ↔ _
      rw [e2, i2 t]
      constructor
      · rintro (h | ⟨h1, h2⟩)
        · exact Or.inl h
        · exact Or.inr ⟨h1, t, rfl, h2⟩
      · rintro (h | ⟨h1, t', h2, h3⟩)
        · exact Or.inl h
        · obtain rfl : t = t' := by omega
          exact Or.inr ⟨h1, h3⟩
theorem Ec_mat (W : Wf n m a b) {z Y : Nat} : Ec m a b m noB noB z Y ↔ ∃ S, Mat a b m (2 ^ n - 1) S ∧ fb_ct S m = z ∧ Y = mN S m := by
  rw [Ec_iff m (Nat.le_refl _) noB noB z Y (fun _ _ _ => rfl), Nat.sub_self]
  constructor
  · rintro ⟨S, s1, s2, s3, s4, s5⟩
    refine ⟨fun l => S l && decide (l < m), ⟨fun l hl => ?_, fun i j hi hj => ?_⟩, ?_, ?_⟩
    · simp only [Bool.and_eq_true, decide_eq_true_eq] at hl
      have hw := W.2.2.2.1 l hl.2
      rw [Nat.testBit_two_pow_sub_one, Nat.testBit_two_pow_sub_one]
      exact ⟨hl.2, decide_eq_true (by omega), decide_eq_true hw.2⟩
    · simp only [Bool.and_eq_true, decide_eq_true_eq] at hi hj
      exact s4 i j (Nat.zero_le _) hi.2 (Nat.zero_le _) hj.2 hi.1 hj.1
    · rw [← s5]
      exact fb_ct_cong (fun l hl => by rw [decide_eq_true hl, decide_eq_true (Nat.zero_le l)])
    · rw [s1]
      exact mN_cong (fun l hl => by rw [decide_eq_true hl, Bool.and_true])
  · rintro ⟨S, h, h2, h3⟩
    refine ⟨S, h3, fun l hl => absurd hl (Nat.not_lt_zero _), fun _ _ _ _ => rfl, fun x y _ _ _ _ h5 h6 => h.2 x y h5 h6, ?_⟩
    rw [← h2]
    exact fb_ct_cong (fun l _ => by rw [decide_eq_true (Nat.zero_le l), Bool.and_true])
theorem Ap_4 (W : Wf n m a b) : Ap a b m (2 ^ n - 1) ≤ 4 := by
  obtain ⟨p1, p2, _⟩ := Dp_ok W m (Nat.le_refl _) (2 ^ n - 1)
  have h := match_posts W (S := Dp a b m (2 ^ n - 1)) (fun i j _ _ h1 h2 => p1.2 i j h1 h2)
  have : pst n m a b (Dp a b m (2 ^ n - 1)) ≤ n := fb_ct_le _ _
  have hn := W.2.1
  omega
end
