/-! bits of ints -/
theorem z_lit (n : Nat) : (OfNat.ofNat n : Int32) = nI n := rfl
theorem z_m1 : (-1 : Int32) ≠ 0 := by decide
theorem bt_nI {N : Nat} (k : Nat) (hk : k < 32) : bt (nI N) k = N.testBit k := by
  unfold bt nI
  rw [show (Int32.ofNat N).toBitVec = BitVec.ofNat 32 N from rfl, BitVec.getLsbD_ofNat]
  simp [hk]
/-- the bit test of Java, as a number -/
theorem z_bit (x : Int32) {k : Nat} (hk : k < 32) : (x >>> (nI k &&& 31)) &&& (1 : Int32) = if bt x k then 1 else 0 := by
  apply b_ext
  intro i hi
  rw [b_and, b_sshr k hk x hi]
  have h1 : bt (1 : Int32) i = decide (i = 0) := by
    rw [show (1 : Int32) = nI 1 from rfl, bt_nI i hi]
    cases i with
    | zero => rfl
    | succ i => simp [Nat.testBit_succ]
  rw [h1]
  by_cases h0 : i = 0
  · subst h0
    rw [if_pos (by omega)]
    cases hb : bt x (k + 0) with
    | true =>
      rw [Nat.add_zero] at hb
      simp [hb]
      rw [show (1 : Int32) = nI 1 from rfl, bt_nI 0 (by omega)]
      rfl
    | false =>
      rw [Nat.add_zero] at hb
      simp [hb]
      exact (b_0 0).symm
  · simp only [h0, decide_false, Bool.and_false]
    split
    · rw [h1]; simp [h0]
    · exact (b_0 i).symm
theorem z_bit0 (x : Int32) {k : Nat} (hk : k < 32) : (x >>> (nI k &&& 31)) &&& (1 : Int32) = 0 ↔ bt x k = false := by
  rw [z_bit x hk]
  cases bt x k <;> simp
theorem z_one {k i : Nat} (hk : k < 32) (hi : i < 32) : bt ((1 : Int32) <<< (nI k &&& 31)) i = decide (i = k) := by
  rw [b_shl k hk _ hi, show (1 : Int32) = nI 1 from rfl, bt_nI _ (by omega)]
  by_cases h : k ≤ i
  · by_cases h2 : i = k
    · subst h2; simp
    · obtain ⟨j, hj⟩ : ∃ j, i - k = j + 1 := ⟨i - k - 1, by omega⟩
      rw [hj]
      simp [h, h2, Nat.testBit_succ]
  · have : i ≠ k := by omega
    simp [h, this]
theorem z_not (x : Int32) {i : Nat} (hi : i < 32) : bt (x ^^^ (-1 : Int32)) i = !bt x i := by
  rw [b_xor, b_m1 i hi]; cases bt x i <;> rfl
theorem z_shl {N k : Nat} (hk : k < 32) : nI N <<< (nI k &&& 31) = nI (N * 2 ^ k) := by
  apply b_ext
  intro i hi
  rw [b_shl k hk _ hi, bt_nI i hi, Nat.testBit_mul_two_pow]
  by_cases h : k ≤ i
  · rw [bt_nI _ (by omega)]
  · simp [h]
theorem z_pow {k : Nat} (hk : k < 32) : (1 : Int32) <<< (nI k &&& 31) = nI (2 ^ k) := by
  rw [show (1 : Int32) = nI 1 from rfl, z_shl hk, Nat.one_mul]
theorem z_ones {k : Nat} (hk : k < 31) : ((1 : Int32) <<< (nI k &&& 31)) - 1 = nI (2 ^ k - 1) := by
  rw [z_pow (by omega)]
  have h : 2 ^ k = (2 ^ k - 1) + 1 := by have := Nat.two_pow_pos k; omega
  rw [h, ← nI_1]
  rw [Nat.add_sub_cancel]
  exact Int32.add_sub_cancel _ _
theorem z_ones_bt {k i : Nat} (hk : k < 31) (hi : i < 32) : bt (((1 : Int32) <<< (nI k &&& 31)) - 1) i = decide (i < k) := by
  rw [z_ones hk, bt_nI i hi, Nat.testBit_two_pow_sub_one]
theorem z_and (a b : Nat) : nI a &&& nI b = nI (a &&& b) := fa_and a b
theorem z_sub {a b : Nat} (h : b ≤ a) : nI a - nI b = nI (a - b) := by
  obtain ⟨c, rfl⟩ := Nat.exists_eq_add_of_le h
  rw [Nat.add_sub_cancel_left, ← nI_add, Int32.add_comm]
  exact Int32.add_sub_cancel _ _
theorem z_ushr {a s : Nat} (hs : s < 32) (ha : a < 2 ^ 32) : kk_ushr (nI a) (nI s) = nI (a / 2 ^ s) := by
  unfold kk_ushr
  apply b_ext
  intro i hi
  rw [b_ushr s hs, bt_nI i hi, Nat.testBit_div_two_pow]
  by_cases h : s + i < 32
  · rw [bt_nI _ h, Nat.add_comm]
  · rw [b_big (by omega)]
    symm
    apply Nat.testBit_lt_two_pow
    exact Nat.lt_of_lt_of_le ha (Nat.pow_le_pow_right (by omega) (by omega))
theorem z_sshr {a s : Nat} (hs : s < 32) (ha : a < 2 ^ 31) : nI a >>> (nI s &&& 31) = nI (a / 2 ^ s) := by
  apply b_ext
  intro i hi
  rw [b_sshr s hs _ hi, bt_nI i hi, Nat.testBit_div_two_pow]
  split
  · rw [bt_nI _ (by assumption), Nat.add_comm]
  · rw [bt_nI _ (by omega)]
    rw [Nat.testBit_lt_two_pow ha]
    symm
    apply Nat.testBit_lt_two_pow
    exact Nat.lt_of_lt_of_le ha (Nat.pow_le_pow_right (by omega) (by omega))
/-! how many bits: by bytes -/
theorem pc_split (a r M : Nat) (ha : a < 256) : (256 * r + a) &&& M = 256 * (r &&& (M / 256)) + (a &&& (M % 256)) := by
  apply Nat.eq_of_testBit_eq
  intro i
  have hM : M = 2 ^ 8 * (M / 256) + M % 256 := by omega
  have hm : M % 256 < 2 ^ 8 := Nat.mod_lt _ (by decide)
  have ha8 : a < 2 ^ 8 := ha
  have hlt : a &&& (M % 256) < 2 ^ 8 := Nat.lt_of_le_of_lt Nat.and_le_left ha8
  rw [Nat.testBit_and, show 256 * r + a = 2 ^ 8 * r + a from rfl, Nat.testBit_two_pow_mul_add _ ha8]
  rw [show 256 * (r &&& (M / 256)) + (a &&& (M % 256)) = 2 ^ 8 * (r &&& (M / 256)) + (a &&& (M % 256)) from rfl, Nat.testBit_two_pow_mul_add _ hlt]
  conv => lhs; rw [hM, Nat.testBit_two_pow_mul_add _ hm]
  split
  · rw [Nat.testBit_and]
  · rw [Nat.testBit_and]
def pcA (M N : Nat) : Nat := N - ((N / 2) &&& M)
def pcB (M N : Nat) : Nat := (N &&& M) + ((N / 4) &&& M)
def pcC (M N : Nat) : Nat := (N + N / 16) &&& M
theorem pc_d1 : ∀ a, a < 256 → ∀ t, t < 2 → (t * 128 + a / 2) &&& 85 = (a / 2) &&& 85 := by decide +kernel
theorem pc_d2 : ∀ a, a < 256 → ∀ t, t < 4 → (t * 64 + a / 4) &&& 51 = (a / 4) &&& 51 := by decide +kernel
theorem pc_d4 : ∀ a, a < 69 → ∀ t, t < 5 → a % 16 < 5 → (16 * t + (a + a / 16)) &&& 15 = (a + a / 16) &&& 15 := by decide +kernel
theorem pcA_s {M r a : Nat} (hM : M % 256 = 85) (ha : a < 256) : pcA M (256 * r + a) = 256 * pcA (M / 256) r + pcA 85 a := by
  unfold pcA
  have h1 : (256 * r + a) / 2 = 256 * (r / 2) + ((r % 2) * 128 + a / 2) := by omega
  rw [h1, pc_split _ _ _ (by omega), hM, pc_d1 a ha _ (Nat.mod_lt _ (by decide))]
  have h2 : (r / 2) &&& (M / 256) ≤ r / 2 := Nat.and_le_left
  have h3 : (a / 2) &&& 85 ≤ a / 2 := Nat.and_le_left
  omega
theorem pcB_s {M r a : Nat} (hM : M % 256 = 51) (ha : a < 256) : pcB M (256 * r + a) = 256 * pcB (M / 256) r + pcB 51 a := by
  unfold pcB
  have h1 : (256 * r + a) / 4 = 256 * (r / 4) + ((r % 4) * 64 + a / 4) := by omega
  rw [h1, pc_split _ _ _ ha, pc_split _ _ _ (by omega), hM, pc_d2 a ha _ (Nat.mod_lt _ (by decide))]
  omega
theorem pcC_s {M r a : Nat} (hM : M % 256 = 15) (ha : a < 69) (ha2 : a % 16 < 5) (hr : r % 16 < 5) : pcC M (256 * r + a) = 256 * pcC (M / 256) r + pcC 15 a := by
  unfold pcC
  have h1 : 256 * r + a + (256 * r + a) / 16 = 256 * (r + r / 16) + (16 * (r % 16) + (a + a / 16)) := by omega
  rw [h1, pc_split _ _ _ (by omega), hM, pc_d4 a ha _ hr ha2]
theorem pc_byte : ∀ a, a < 256 → pcA 85 a < 256 ∧ pcB 51 (pcA 85 a) < 69 ∧ pcB 51 (pcA 85 a) % 16 < 5 ∧ pcC 15 (pcB 51 (pcA 85 a)) = fb_ct a.testBit 8 := by decide +kernel
theorem pc_top : ∀ a, a < 256 → pcA 21845 a = pcA 85 a ∧ pcB 13107 (pcA 85 a) = pcB 51 (pcA 85 a) ∧ pcC 3855 (pcB 51 (pcA 85 a)) = pcC 15 (pcB 51 (pcA 85 a)) := by decide +kernel
theorem pc_all {n0 n1 n2 : Nat} (h0 : n0 < 256) (h1 : n1 < 256) (h2 : n2 < 256) : pcC 252645135 (pcB 858993459 (pcA 1431655765 (256 * (256 * n2 + n1) + n0))) = 65536 * fb_ct n2.testBit 8 + 256 * fb_ct n1.testBit 8 + fb_ct n0.testBit 8 := by
  obtain ⟨a0, b0, c0, d0⟩ := pc_byte n0 h0
  obtain ⟨a1, b1, c1, d1⟩ := pc_byte n1 h1
  obtain ⟨a2, b2, c2, d2⟩ := pc_byte n2 h2
  obtain ⟨t1, t2, t3⟩ := pc_top n2 h2
  rw [pcA_s (by decide) h0, pcB_s (by decide) a0, show 1431655765 / 256 = 5592405 from rfl, pcA_s (by decide) h1, show 858993459 / 256 = 3355443 from rfl, pcB_s (by decide) a1]
  rw [show 5592405 / 256 = 21845 from rfl, show 3355443 / 256 = 13107 from rfl, t1, t2]
  have hr : (256 * pcB 51 (pcA 85 n2) + pcB 51 (pcA 85 n1)) % 16 < 5 := by omega
  rw [pcC_s (by decide) b0 c0 hr, show 252645135 / 256 = 986895 from rfl, pcC_s (by decide) b1 c1 c2, show 986895 / 256 = 3855 from rfl, t3, d0, d1, d2]
  omega
theorem pc_bits {n0 n1 n2 : Nat} (h0 : n0 < 256) (h1 : n1 < 256) (h2 : n2 < 256) : fb_ct (256 * (256 * n2 + n1) + n0).testBit 32 = fb_ct n2.testBit 8 + fb_ct n1.testBit 8 + fb_ct n0.testBit 8 := by
  have e : ∀ i, (256 * (256 * n2 + n1) + n0).testBit i = if i < 8 then n0.testBit i else if i - 8 < 8 then n1.testBit (i - 8) else n2.testBit (i - 8 - 8) := by
    intro i
    rw [show 256 * (256 * n2 + n1) + n0 = 2 ^ 8 * (2 ^ 8 * n2 + n1) + n0 from rfl, Nat.testBit_two_pow_mul_add _ (show n0 < 2 ^ 8 from h0)]
    split
    · rfl
    · rw [Nat.testBit_two_pow_mul_add _ (show n1 < 2 ^ 8 from h1)]
  rw [show (32 : Nat) = 8 + 24 from rfl, fb_ct_split, show (24 : Nat) = 8 + 16 from rfl, fb_ct_split, show (16 : Nat) = 8 + 8 from rfl, fb_ct_split _ 8 8]
  have s0 : fb_ct (256 * (256 * n2 + n1) + n0).testBit 8 = fb_ct n0.testBit 8 := fb_ct_cong (fun k hk => by rw [e, if_pos hk])
  have s1 : fb_ct (fun k => (256 * (256 * n2 + n1) + n0).testBit (8 + k)) 8 = fb_ct n1.testBit 8 := fb_ct_cong (fun k hk => by rw [e, if_neg (by omega), if_pos (by omega), Nat.add_sub_cancel_left])
  have s2 : fb_ct (fun k => (256 * (256 * n2 + n1) + n0).testBit (8 + (8 + k))) 8 = fb_ct n2.testBit 8 := fb_ct_cong (fun k hk => by rw [e, if_neg (by omega), if_neg (by omega)]; congr 1; omega)
  have s3 : fb_ct (fun k => (256 * (256 * n2 + n1) + n0).testBit (8 + (8 + (8 + k)))) 8 = 0 := fb_ct_zero.mpr (fun k hk => by
    rw [e, if_neg (by omega), if_neg (by omega)]
    apply Nat.testBit_lt_two_pow
    exact Nat.lt_of_lt_of_le h2 (Nat.pow_le_pow_right (n := 2) (by decide) (show 8 ≤ _ by omega)))
  rw [s0, s1, s2, s3]
  omega
theorem pc_24 {N : Nat} (h : N < 2 ^ 24) : ∃ n0 n1 n2, n0 < 256 ∧ n1 < 256 ∧ n2 < 256 ∧ N = 256 * (256 * n2 + n1) + n0 := ⟨N % 256, N / 256 % 256, N / 65536, by omega, by omega, by omega, by omega⟩
/-- how many bits a mask has -/
def pop (x : Int32) : Nat := fb_ct (bt x) 32
theorem pop_nI {N : Nat} : pop (nI N) = fb_ct N.testBit 32 := fb_ct_cong (fun k hk => bt_nI k hk)
