/-! masks: the int whose bits are told by a predicate, below a bound -/
def mN (P : Nat → Bool) : Nat → Nat
  | 0 => 0
  | n + 1 => mN P n + if P n then 2 ^ n else 0
def mk (P : Nat → Bool) (n : Nat) : Int32 := nI (mN P n)
theorem mN_lt (P : Nat → Bool) : ∀ n, mN P n < 2 ^ n
  | 0 => Nat.one_pos
  | n + 1 => by
    have := mN_lt P n
    rw [mN, Nat.pow_succ]
    split <;> omega
theorem mN_bit (P : Nat → Bool) : ∀ n k, (mN P n).testBit k = (decide (k < n) && P k)
  | 0, k => by simp [mN]
  | n + 1, k => by
    have hlt := mN_lt P n
    have ih := mN_bit P n
    rw [mN]
    by_cases hp : P n = true
    · rw [if_pos hp, Nat.add_comm, show 2 ^ n + mN P n = 2 ^ n * 1 + mN P n by omega, Nat.testBit_two_pow_mul_add _ hlt]
      by_cases hk : k < n
      · rw [if_pos hk, ih]
        have : k < n + 1 := by omega
        simp [hk, this]
      · rw [if_neg hk]
        by_cases hk2 : k = n
        · subst hk2; simp [hp]
        · have h3 : ¬ k < n + 1 := by omega
          obtain ⟨j, hj⟩ : ∃ j, k - n = j + 1 := ⟨k - n - 1, by omega⟩
          rw [hj]
          simp [h3, Nat.testBit_succ]
    · have hpf : P n = false := by cases h : P n <;> simp_all
      rw [if_neg hp, Nat.add_zero, ih]
      by_cases hk2 : k = n
      · subst hk2; simp [hpf]
      · by_cases hk : k < n
        · have : k < n + 1 := by omega
          simp [hk, this]
        · have : ¬ k < n + 1 := by omega
          simp [hk, this]
theorem mk_bt (P : Nat → Bool) (n : Nat) {k : Nat} (hk : k < 32) : bt (mk P n) k = (decide (k < n) && P k) := by
  unfold mk
  rw [bt_nI k hk, mN_bit]
theorem mk_ext {x : Int32} {P : Nat → Bool} {n : Nat} (h : ∀ k, k < 32 → bt x k = (decide (k < n) && P k)) : x = mk P n := b_ext (fun k hk => by rw [h k hk, mk_bt P n hk])
theorem mk_cong {P P' : Nat → Bool} {n : Nat} (h : ∀ k, k < n → P k = P' k) : mk P n = mk P' n := mk_ext (fun k hk => by
  rw [mk_bt P n hk]
  by_cases hn : k < n
  · rw [h k hn]
  · simp [hn])
theorem mk_grow {P : Nat → Bool} {n n' : Nat} (h : n ≤ n') (h2 : ∀ k, n ≤ k → k < n' → P k = false) : mk P n = mk P n' := mk_ext (fun k hk => by
  rw [mk_bt P n hk]
  by_cases hn : k < n
  · have : k < n' := by omega
    simp [hn, this]
  · by_cases hn' : k < n'
    · simp [hn, hn', h2 k (by omega) hn']
    · simp [hn, hn'])
theorem mk_0 (n : Nat) : mk (fun _ => false) n = 0 := by
  apply b_ext
  intro k hk
  rw [mk_bt _ _ hk, b_0]; simp
theorem mk_zero (P : Nat → Bool) : mk P 0 = 0 := rfl
theorem mk_eq0 {P : Nat → Bool} {n : Nat} (hn : n ≤ 32) : mk P n = 0 ↔ ∀ k, k < n → P k = false := by
  constructor
  · intro h k hk
    have h1 := mk_bt P n (show k < 32 by omega)
    rw [h, b_0] at h1
    simp [hk] at h1
    exact h1
  · intro h
    rw [mk_cong h, mk_0]
theorem mk_inj {P P' : Nat → Bool} {n : Nat} (hn : n ≤ 32) (h : mk P n = mk P' n) : ∀ k, k < n → P k = P' k := by
  intro k hk
  have h1 := mk_bt P n (show k < 32 by omega)
  rw [h, mk_bt P' n (by omega)] at h1
  simp [hk] at h1
  exact h1.symm
theorem mk_or (P P' : Nat → Bool) (n : Nat) : mk P n ||| mk P' n = mk (fun k => P k || P' k) n := mk_ext (fun k hk => by
  rw [b_or, mk_bt _ _ hk, mk_bt _ _ hk]; cases decide (k < n) <;> rfl)
theorem mk_and (P P' : Nat → Bool) (n : Nat) : mk P n &&& mk P' n = mk (fun k => P k && P' k) n := mk_ext (fun k hk => by
  rw [b_and, mk_bt _ _ hk, mk_bt _ _ hk]; cases decide (k < n) <;> simp)
theorem mk_xor (P P' : Nat → Bool) (n : Nat) : mk P n ^^^ mk P' n = mk (fun k => P k ^^ P' k) n := mk_ext (fun k hk => by
  rw [b_xor, mk_bt _ _ hk, mk_bt _ _ hk]; cases decide (k < n) <;> simp)
theorem mk_andn (P P' : Nat → Bool) (n : Nat) : mk P n &&& (mk P' n ^^^ (-1 : Int32)) = mk (fun k => P k && !P' k) n := mk_ext (fun k hk => by
  rw [b_and, z_not _ hk, mk_bt _ _ hk, mk_bt _ _ hk]; cases decide (k < n) <;> simp)
theorem mk_one {k n : Nat} (hk : k < n) (hn : n ≤ 32) : (1 : Int32) <<< (nI k &&& 31) = mk (fun j => decide (j = k)) n := mk_ext (fun j hj => by
  rw [z_one (by omega) hj]
  by_cases h : j = k
  · subst h; simp [hk]
  · simp [h])
theorem mk_set {P : Nat → Bool} {k n : Nat} (hk : k < n) (hn : n ≤ 32) : mk P n ||| ((1 : Int32) <<< (nI k &&& 31)) = mk (fun j => P j || decide (j = k)) n := by rw [mk_one hk hn, mk_or]
theorem mk_clr {P : Nat → Bool} {k n : Nat} (hk : k < n) (hn : n ≤ 32) : mk P n &&& (((1 : Int32) <<< (nI k &&& 31)) ^^^ (-1 : Int32)) = mk (fun j => P j && !decide (j = k)) n := by rw [mk_one hk hn, mk_andn]
theorem mk_push (P : Nat → Bool) {n : Nat} (hn : n < 32) : (if P n then mk P n ||| ((1 : Int32) <<< (nI n &&& 31)) else mk P n) = mk P (n + 1) := mk_ext (fun j hj => by
  by_cases hp : P n = true
  · rw [if_pos hp, b_or, mk_bt _ _ hj, z_one hn hj]
    by_cases h : j = n
    · subst h; simp [hp]
    · by_cases h2 : j < n
      · have : j < n + 1 := by omega
        simp [h, h2, this]
      · have : ¬ j < n + 1 := by omega
        simp [h, h2, this]
  · have hpf : P n = false := by cases h : P n <;> simp_all
    rw [if_neg hp, mk_bt _ _ hj]
    by_cases h : j = n
    · subst h; simp [hpf]
    · by_cases h2 : j < n
      · have : j < n + 1 := by omega
        simp [h2, this]
      · have : ¬ j < n + 1 := by omega
        simp [h2, this])
theorem mk_ones {n : Nat} (hn : n < 31) : ((1 : Int32) <<< (nI n &&& 31)) - (1 : Int32) = mk (fun _ => true) n := mk_ext (fun k hk => by rw [z_ones_bt hn hk]; simp)
theorem mk_pop {P : Nat → Bool} {n : Nat} (hn : n ≤ 32) : pop (mk P n) = fb_ct P n := by
  unfold pop
  obtain ⟨d, hd⟩ := Nat.exists_eq_add_of_le hn
  rw [hd, fb_ct_split]
  have h1 : fb_ct (bt (mk P n)) n = fb_ct P n := fb_ct_cong (fun k hk => by rw [mk_bt _ _ (by omega)]; simp [hk])
  have h2 : fb_ct (fun k => bt (mk P n) (n + k)) d = 0 := fb_ct_zero.mpr (fun k hk => by rw [mk_bt _ _ (by omega)]; simp; intro h; omega)
  rw [h1, h2, Nat.add_zero]
theorem mk_lsb {P : Nat → Bool} {n t : Nat} (hn : n ≤ 32) (ht : t < n) (h1 : P t = true) (h0 : ∀ k, k < t → P k = false) : lsb (mk P n) = t := by
  have hb : bt (mk P n) t = true := by rw [mk_bt _ _ (by omega)]; simp [ht, h1]
  have hb0 : ∀ k, k < t → bt (mk P n) k = false := fun k hk => by rw [mk_bt _ _ (by omega), h0 k hk]; simp
  unfold lsb
  have hle := fa_first_le (bt (mk P n)) 32
  rcases Nat.lt_trichotomy (fa_first (bt (mk P n)) 32) t with h | h | h
  · have hy := fa_first_yes (bt (mk P n)) 32 (by omega)
    rw [hb0 _ h] at hy
    cases hy
  · exact h
  · have hno := fa_first_no (bt (mk P n)) 32 t h
    rw [hb] at hno
    cases hno
theorem mk_lt {P : Nat → Bool} {n : Nat} : mN P n < 2 ^ n := mN_lt P n
theorem mk_small {P : Nat → Bool} {n : Nat} (hn : n ≤ 24) : mN P n < 2 ^ 24 := Nat.lt_of_lt_of_le (mN_lt P n) (Nat.pow_le_pow_right (by decide) hn)
theorem mk_pos {P : Nat → Bool} {n : Nat} (hn : n ≤ 30) : mN P n < 2 ^ 31 := Nat.lt_of_lt_of_le (mN_lt P n) (Nat.pow_le_pow_right (by decide) (by omega))
theorem sp_bitCountM {P : Nat → Bool} {n : Nat} (hn : n ≤ 24) {Q : Int32 → Prop} (h : Q (nI (fb_ct P n))) : f_J6_bitCount_0f7a4 (mk P n) Q := sp_bitCount (x := mk P n) rfl (mk_small hn) (by rw [mk_pop (by omega)]; exact h)
theorem sp_bitsOfM {P : Nat → Bool} {n : Nat} (hn : n ≤ 24) {Q : Int32 → Prop} (h : Q (nI (fb_ct P n))) : f_X11_bitsOf (mk P n) Q := sp_bitsOf (x := mk P n) rfl (mk_small hn) (by rw [mk_pop (by omega)]; exact h)
theorem sp_ntzM {P : Nat → Bool} {n t : Nat} (hn : n ≤ 30) (ht : t < n) (h1 : P t = true) (h0 : ∀ k, k < t → P k = false) {Q : Int32 → Prop} (h : Q (nI t)) : f_J6_numberOfTrailingZeros_0f7a4 (mk P n) Q :=
  sp_ntz (x := mk P n) rfl (mk_pos hn) (by rw [mk_lsb (by omega) ht h1 h0]; omega) (by rw [mk_lsb (by omega) ht h1 h0]; exact h)
theorem sp_lowestOfM {P : Nat → Bool} {n t : Nat} (hn : n ≤ 30) (ht : t < n) (h1 : P t = true) (h0 : ∀ k, k < t → P k = false) {Q : Int32 → Prop} (h : Q (nI t)) : f_X11_lowestOf (mk P n) Q :=
  sp_lowestOf (x := mk P n) (by rw [mk_lsb (by omega) ht h1 h0]; omega) (by rw [mk_lsb (by omega) ht h1 h0]; exact h)
theorem sp_hasM {P : Nat → Bool} {n k : Nat} (hk : k < n) (hn : n ≤ 32) {Q : Int32 → Prop} (h : Q (if P k then 1 else 0)) : f_X11_has (mk P n) (nI k) Q := sp_has (by omega) (by rw [mk_bt _ _ (by omega)]; simpa [hk] using h)
/-- the first of a predicate below a bound, or the bound -/
theorem fst_ex (P : Nat → Bool) (n : Nat) : (∃ t, t < n ∧ P t = true ∧ ∀ k, k < t → P k = false) ∨ ∀ k, k < n → P k = false := by
  by_cases h : fa_first P n < n
  · exact Or.inl ⟨_, h, fa_first_yes P n h, fun k hk => fa_first_no P n k hk⟩
  · right
    intro k hk
    exact fa_first_no P n k (by omega)
def mx (f : Nat → Nat) : Nat → Nat
  | 0 => 0
  | n + 1 => if f n > mx f n then f n else mx f n
theorem mx_ge (f : Nat → Nat) : ∀ {n k : Nat}, k < n → f k ≤ mx f n
  | n + 1, k, h => by
    rw [mx]
    by_cases hk : k = n
    · subst hk; split <;> omega
    · have := mx_ge f (show k < n by omega)
      split <;> omega
theorem mx_at (f : Nat → Nat) : ∀ {n : Nat}, mx f n = 0 ∨ ∃ k, k < n ∧ f k = mx f n
  | 0 => Or.inl rfl
  | n + 1 => by
    rw [mx]
    split
    · exact Or.inr ⟨n, by omega, rfl⟩
    · rcases mx_at f (n := n) with h | ⟨k, hk, h⟩
      · exact Or.inl h
      · exact Or.inr ⟨k, by omega, h⟩
theorem mx_le {f : Nat → Nat} {M : Nat} : ∀ {n : Nat}, (∀ k, k < n → f k ≤ M) → mx f n ≤ M
  | 0, _ => Nat.zero_le _
  | n + 1, h => by
    rw [mx]
    have h1 := mx_le (n := n) (fun k hk => h k (by omega))
    have h2 := h n (by omega)
    split <;> omega
theorem mx_cong {f g : Nat → Nat} : ∀ {n : Nat}, (∀ k, k < n → f k = g k) → mx f n = mx g n
  | 0, _ => rfl
  | n + 1, h => by rw [mx, mx, mx_cong (fun k hk => h k (by omega)), h n (by omega)]
