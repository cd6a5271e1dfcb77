/-! the abstract network, and words for it -/
def bI (b : Bool) : Int32 := if b then 1 else 0
theorem bI_t : bI true = 1 := rfl
theorem bI_f : bI false = 0 := rfl
theorem bI_01 (b : Bool) : bI b = 0 ∨ bI b = 1 := by cases b <;> simp [bI]
theorem bI_zn {b : Bool} {A B : Prop} (h0 : b = false → A) (h1 : b = true → B) : (bI b = 0 → A) ∧ (¬ bI b = 0 → B) := by
  cases b with
  | false => exact ⟨fun _ => h0 rfl, fun z => absurd rfl z⟩
  | true => exact ⟨fun z => absurd z (by decide), fun _ => h1 rfl⟩
theorem bI_nz {b : Bool} {A B : Prop} (h1 : b = true → A) (h0 : b = false → B) : (¬ bI b = 0 → A) ∧ (bI b = 0 → B) := by
  cases b with
  | false => exact ⟨fun z => absurd rfl z, fun _ => h0 rfl⟩
  | true => exact ⟨fun _ => h1 rfl, fun z => absurd z (by decide)⟩
theorem bI_ite (b : Bool) : (if b = true then (1 : Int32) else 0) = bI b := rfl
theorem bI_iteP (c : Prop) [Decidable c] : (if c then (1 : Int32) else 0) = bI (decide c) := by by_cases h : c <;> simp [bI, h]
/-- an int that is a place below a bound -/
def isIx (v : Int32) (m : Nat) : Bool := decide (0 ≤ v.toInt) && decide (v.toInt < (m : Int))
theorem isIx_ex {v : Int32} {m : Nat} (h : isIx v m = true) : ∃ k, k < m ∧ v = nI k := by
  simp only [isIx, Bool.and_eq_true, decide_eq_true_eq] at h
  have h0 : ¬ v < 0 := fun z => by have := Int32.lt_iff_toInt_lt.mp z; simp at this; omega
  obtain ⟨j, hj, rfl⟩ := nI_of h0
  rw [nI_toInt hj] at h
  exact ⟨j, by omega, rfl⟩
theorem isIx_nI {k m : Nat} (hk : k < 2 ^ 31) : isIx (nI k) m = decide (k < m) := by
  simp only [isIx, nI_toInt hk]
  by_cases h : k < m
  · have : (k : Int) < (m : Int) := by omega
    simp [h, this]
  · have : ¬ (k : Int) < (m : Int) := by omega
    simp [h, this]
theorem isIx_lt {k m : Nat} (hm : m ≤ 2 ^ 31) (hk : k < m) : isIx (nI k) m = true := by rw [isIx_nI (by omega)]; simp [hk]
theorem isIx_in {v : Int32} {m : Nat} (hm : m < 2 ^ 31) : (if (0 : Int32) ≤ v ∧ v ≤ nI m - 1 then (1 : Int32) else 0) = bI (isIx v m) := by
  have hs : (nI m - 1 : Int32).toInt = (m : Int) - 1 := by
    have h1 : (nI m).toInt = (m : Int) := nI_toInt hm
    rw [Int32.toInt_sub, h1, show (1 : Int32).toInt = 1 from rfl]
    rw [Int.bmod_eq_of_le] <;> omega
  rw [bI_iteP]
  congr 1
  simp only [isIx, Int32.le_iff_toInt_le, hs, show (0 : Int32).toInt = 0 from rfl]
  rw [← Bool.decide_and]
  apply decide_eq_decide.mpr
  omega
theorem isIx_in2 {v : Int32} {m : Nat} (hm : m < 2 ^ 31) : (if (0 : Int32) ≤ v ∧ v ≤ nI m then (1 : Int32) else 0) = bI (isIx v (m + 1)) := by
  rw [bI_iteP]
  congr 1
  simp only [isIx, Int32.le_iff_toInt_le, nI_toInt hm, show (0 : Int32).toInt = 0 from rfl]
  rw [← Bool.decide_and]
  apply decide_eq_decide.mpr
  omega
def anyb (P : Nat → Bool) : Nat → Bool
  | 0 => false
  | n + 1 => anyb P n || P n
theorem anyb_iff {P : Nat → Bool} : ∀ {n : Nat}, anyb P n = true ↔ ∃ k, k < n ∧ P k = true
  | 0 => by simp [anyb]
  | n + 1 => by
    rw [anyb, Bool.or_eq_true, anyb_iff]
    constructor
    · rintro (⟨k, h1, h2⟩ | h)
      · exact ⟨k, by omega, h2⟩
      · exact ⟨n, by omega, h⟩
    · rintro ⟨k, h1, h2⟩
      by_cases hk : k = n
      · subst hk; exact Or.inr h2
      · exact Or.inl ⟨k, by omega, h2⟩
theorem anyb_no {P : Nat → Bool} {n : Nat} : anyb P n = false ↔ ∀ k, k < n → P k = false := by
  constructor
  · intro h k hk
    cases hp : P k with
    | false => rfl
    | true => rw [anyb_iff.mpr ⟨k, hk, hp⟩] at h; cases h
  · intro h
    cases ha : anyb P n with
    | false => rfl
    | true =>
      obtain ⟨k, hk, hp⟩ := anyb_iff.mp ha
      rw [h k hk] at hp; cases hp
theorem anyb_cong {P P' : Nat → Bool} : ∀ {n : Nat}, (∀ k, k < n → P k = P' k) → anyb P n = anyb P' n
  | 0, _ => rfl
  | n + 1, h => by rw [anyb, anyb, anyb_cong (fun k hk => h k (by omega)), h n (by omega)]
/-- the first place of a predicate, or none -/
def fI (P : Nat → Bool) (m : Nat) : Int32 := if fa_first P m < m then nI (fa_first P m) else -1
theorem first_at {P : Nat → Bool} {m t : Nat} (ht : t < m) (h1 : P t = true) (h0 : ∀ k, k < t → P k = false) : fa_first P m = t := by
  have hle := fa_first_le P m
  rcases Nat.lt_trichotomy (fa_first P m) t with h | h | h
  · have hy := fa_first_yes P m (by omega)
    rw [h0 _ h] at hy; cases hy
  · exact h
  · have hno := fa_first_no P m t h
    rw [h1] at hno; cases hno
theorem first_none {P : Nat → Bool} {m : Nat} (h : ∀ k, k < m → P k = false) : fa_first P m = m := by
  have hle := fa_first_le P m
  by_cases hlt : fa_first P m < m
  · have hy := fa_first_yes P m hlt
    rw [h _ hlt] at hy; cases hy
  · omega
theorem fI_at {P : Nat → Bool} {m t : Nat} (ht : t < m) (h1 : P t = true) (h0 : ∀ k, k < t → P k = false) : fI P m = nI t := by
  unfold fI; rw [first_at ht h1 h0, if_pos ht]
theorem fI_none {P : Nat → Bool} {m : Nat} (h : ∀ k, k < m → P k = false) : fI P m = -1 := by
  unfold fI; rw [first_none h, if_neg (Nat.lt_irrefl _)]
theorem nI_ne_m1 {k : Nat} (hk : k < 2 ^ 31) : nI k ≠ -1 := fun h => by
  have := congrArg Int32.toInt h
  rw [nI_toInt hk, show (-1 : Int32).toInt = -1 from rfl] at this
  omega
theorem fI_ne {P : Nat → Bool} {m : Nat} (hm : m < 2 ^ 31) : fI P m = -1 ↔ anyb P m = false := by
  rw [anyb_no]
  constructor
  · intro h
    rcases fst_ex P m with ⟨t, ht, h1, h0⟩ | h0
    · rw [fI_at ht h1 h0] at h
      exact absurd h (nI_ne_m1 (by omega))
    · exact h0
  · exact fI_none
theorem fI_cong {P P' : Nat → Bool} {m : Nat} (h : ∀ k, k < m → P k = P' k) : fI P m = fI P' m := by
  rcases fst_ex P m with ⟨t, ht, h1, h0⟩ | h0
  · rw [fI_at ht h1 h0, fI_at ht (by rw [← h t ht]; exact h1) (fun k hk => by rw [← h k (by omega)]; exact h0 k hk)]
  · rw [fI_none h0, fI_none (fun k hk => by rw [← h k hk]; exact h0 k hk)]
/-- line k is at post p -/
def inc (a b : Nat → Nat) (k p : Nat) : Bool := decide (a k = p) || decide (b k = p)
/-- lines k and j share a post, and differ -/
def mts (a b : Nat → Nat) (k j : Nat) : Bool := !decide (k = j) && (inc a b k (a j) || inc a b k (b j))
/-- how many lines of a set a post has -/
def dgS (m : Nat) (a b : Nat → Nat) (S : Nat → Bool) (p : Nat) : Nat := fb_ct (fun k => S k && inc a b k p) m
def dg (m : Nat) (a b : Nat → Nat) (p : Nat) : Nat := fb_ct (fun k => inc a b k p) m
def DgS (n m : Nat) (a b : Nat → Nat) (S : Nat → Bool) : Nat := mx (dgS m a b S) n
def Dg (n m : Nat) (a b : Nat → Nat) : Nat := mx (dg m a b) n
/-- a post has a line with a colour -/
def usd (m : Nat) (a b : Nat → Nat) (c : Nat → Int32) (p : Nat) (v : Int32) : Bool := anyb (fun k => inc a b k p && decide (c k = v)) m
def Wf (n m : Nat) (a b : Nat → Nat) : Prop := 1 ≤ n ∧ n ≤ 9 ∧ m ≤ 20 ∧ (∀ k, k < m → a k < b k ∧ b k < n) ∧ ∀ i j, i < m → j < m → a i = a j → b i = b j → i = j
/-- colours are none or at most the degree, and differ where lines meet -/
def Pr (n m : Nat) (a b : Nat → Nat) (c : Nat → Int32) : Prop := (∀ k, k < m → c k = -1 ∨ ∃ q, q ≤ Dg n m a b ∧ c k = nI q) ∧ ∀ i j, i < m → j < m → mts a b i j = true → c i = c j → c i = -1
theorem inc_iff {a b : Nat → Nat} {k p : Nat} : inc a b k p = true ↔ a k = p ∨ b k = p := by simp [inc]
theorem mts_iff {a b : Nat → Nat} {k j : Nat} : mts a b k j = true ↔ k ≠ j ∧ ∃ p, inc a b k p = true ∧ inc a b j p = true := by
  simp only [mts, Bool.and_eq_true, Bool.not_eq_true', decide_eq_false_iff_not, Bool.or_eq_true, inc_iff]
  constructor
  · rintro ⟨h1, h2⟩
    refine ⟨h1, ?_⟩
    rcases h2 with h | h
    · exact ⟨a j, h, Or.inl rfl⟩
    · exact ⟨b j, h, Or.inr rfl⟩
  · rintro ⟨h1, p, h2, h3⟩
    refine ⟨h1, ?_⟩
    rcases h3 with rfl | rfl
    · exact Or.inl h2
    · exact Or.inr h2
theorem mts_comm {a b : Nat → Nat} {k j : Nat} : mts a b k j = mts a b j k := by
  cases h : mts a b j k with
  | true =>
    obtain ⟨h1, p, h2, h3⟩ := mts_iff.mp h
    exact mts_iff.mpr ⟨Ne.symm h1, p, h3, h2⟩
  | false =>
    cases h' : mts a b k j with
    | false => rfl
    | true =>
      obtain ⟨h1, p, h2, h3⟩ := mts_iff.mp h'
      rw [mts_iff.mpr ⟨Ne.symm h1, p, h3, h2⟩] at h; cases h
theorem dg_le_Dg {n m : Nat} {a b : Nat → Nat} {p : Nat} (hp : p < n) : dg m a b p ≤ Dg n m a b := mx_ge _ hp
/-- at one post at most n - 1 lines: the other ends differ -/
theorem dg_lt {n m : Nat} {a b : Nat → Nat} (W : Wf n m a b) (p : Nat) (hp : p < n) : dg m a b p < n := by
  obtain ⟨h1, h2, h3, h4, h5⟩ := W
  -- the kth line at p has another end, below n and not p
  have inj : dg m a b p ≤ n - 1 := by
    refine fb_holes (n - 1) (dg m a b p) (fun i => if hi : i < dg m a b p then
        let k := Classical.choose (fb_ct_kth (p := fun k => inc a b k p) (n := m) hi)
        let e := if a k = p then b k else a k
        if e < p then e else e - 1 else 0) ?_ ?_
    · intro i hi
      simp only [dif_pos hi]
      have hs := Classical.choose_spec (fb_ct_kth (p := fun k => inc a b k p) (n := m) hi)
      generalize Classical.choose (fb_ct_kth (p := fun k => inc a b k p) (n := m) hi) = k at hs
      obtain ⟨k1, k2, k3⟩ := hs
      obtain ⟨q1, q2⟩ := h4 k k1
      rcases inc_iff.mp k2 with h | h
      · rw [if_pos h]; split <;> omega
      · rw [if_neg (show ¬ a k = p by omega)]; split <;> omega
    · intro i j hij hj
      simp only [dif_pos hj, dif_pos (Nat.lt_trans hij hj)]
      have hs := Classical.choose_spec (fb_ct_kth (p := fun k => inc a b k p) (n := m) (Nat.lt_trans hij hj))
      generalize Classical.choose (fb_ct_kth (p := fun k => inc a b k p) (n := m) (Nat.lt_trans hij hj)) = k at hs
      have hs' := Classical.choose_spec (fb_ct_kth (p := fun k => inc a b k p) (n := m) hj)
      generalize Classical.choose (fb_ct_kth (p := fun k => inc a b k p) (n := m) hj) = k' at hs'
      obtain ⟨k1, k2, k3⟩ := hs
      obtain ⟨l1, l2, l3⟩ := hs'
      have hne : k ≠ k' := fun h => by subst h; omega
      obtain ⟨q1, q2⟩ := h4 k k1
      obtain ⟨r1, r2⟩ := h4 k' l1
      intro heq
      apply hne
      rcases inc_iff.mp k2 with h | h <;> rcases inc_iff.mp l2 with h' | h'
      · rw [if_pos h, if_pos h'] at heq
        exact h5 k k' k1 l1 (by omega) (by split at heq <;> split at heq <;> omega)
      · rw [if_pos h, if_neg (show ¬ a k' = p by omega)] at heq
        split at heq <;> split at heq <;> omega
      · rw [if_neg (show ¬ a k = p by omega), if_pos h'] at heq
        split at heq <;> split at heq <;> omega
      · rw [if_neg (show ¬ a k = p by omega), if_neg (show ¬ a k' = p by omega)] at heq
        exact h5 k k' k1 l1 (by split at heq <;> split at heq <;> omega) (by omega)
  omega
theorem Dg_lt {n m : Nat} {a b : Nat → Nat} (W : Wf n m a b) : Dg n m a b < n := by
  have h1 := W.1
  have : Dg n m a b ≤ n - 1 := mx_le (fun p hp => by have := dg_lt W p hp; omega)
  omega
theorem Dg_le8 {n m : Nat} {a b : Nat → Nat} (W : Wf n m a b) : Dg n m a b ≤ 8 := by
  have := Dg_lt W
  have := W.2.1
  omega
