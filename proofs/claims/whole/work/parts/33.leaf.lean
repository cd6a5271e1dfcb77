/-! the leaves: counting bits, least and greatest bit, tests -/
theorem z_mul (a b : Nat) : nI a * nI b = nI (a * b) := by
  apply Int32.toBitVec_inj.mp
  rw [Int32.toBitVec_mul]
  show BitVec.ofNat 32 a * BitVec.ofNat 32 b = BitVec.ofNat 32 (a * b)
  rw [BitVec.ofNat_mul]
theorem z_mod (a : Nat) : nI (a % 2 ^ 32) = nI a := by
  apply Int32.toBitVec_inj.mp
  show BitVec.ofNat 32 (a % 2 ^ 32) = BitVec.ofNat 32 a
  apply BitVec.eq_of_toNat_eq
  simp
theorem z_pos {N : Nat} (h : N < 2 ^ 31) : (nI N).toInt = (N : Int) := nI_toInt h
theorem sp_bitCount {x : Int32} {N : Nat} (hx : x = nI N) (hN : N < 2 ^ 24) {Q : Int32 → Prop} (h : Q (nI (pop x))) : f_J6_bitCount_0f7a4 x Q := by
  subst hx
  obtain ⟨n0, n1, n2, h0, h1, h2, rfl⟩ := pc_24 hN
  rw [pop_nI, pc_bits h0 h1 h2] at h
  unfold f_J6_bitCount_0f7a4
  intro v1 e1 v2 e2 v3 e3 v4 e4 v5 e5
  have k0 := fb_ct_le n0.testBit 8
  have k1 := fb_ct_le n1.testBit 8
  have k2 := fb_ct_le n2.testBit 8
  have hall := pc_all h0 h1 h2
  generalize fb_ct n0.testBit 8 = s0 at *
  generalize fb_ct n1.testBit 8 = s1 at *
  generalize fb_ct n2.testBit 8 = s2 at *
  have l1 : (1 : Int32) = nI 1 := rfl
  have l2 : (2 : Int32) = nI 2 := rfl
  have l4 : (4 : Int32) = nI 4 := rfl
  have l8 : (8 : Int32) = nI 8 := rfl
  have l16 : (16 : Int32) = nI 16 := rfl
  have lA : (1431655765 : Int32) = nI 1431655765 := rfl
  have lB : (858993459 : Int32) = nI 858993459 := rfl
  have lC : (252645135 : Int32) = nI 252645135 := rfl
  have l63 : (63 : Int32) = nI 63 := rfl
  generalize hN' : 256 * (256 * n2 + n1) + n0 = N at *
  have hAle : (N / 2) &&& 1431655765 ≤ N := Nat.le_trans Nat.and_le_left (Nat.div_le_self _ _)
  have e1' : v1 = nI (pcA 1431655765 N) := by
    rw [e1, l1, z_ushr (by omega) (by omega), lA, z_and, z_sub (by simpa using hAle)]; rfl
  have hA : pcA 1431655765 N < 2 ^ 24 := Nat.lt_of_le_of_lt (Nat.sub_le _ _) hN
  have e2' : v2 = nI (pcB 858993459 (pcA 1431655765 N)) := by
    rw [e2, e1', l2, z_ushr (by omega) (by omega), lB, z_and, z_and, nI_add]; rfl
  have hB : pcB 858993459 (pcA 1431655765 N) < 2 ^ 26 := by
    unfold pcB
    have a1 : pcA 1431655765 N &&& 858993459 ≤ pcA 1431655765 N := Nat.and_le_left
    have a2 : (pcA 1431655765 N / 4) &&& 858993459 ≤ pcA 1431655765 N / 4 := Nat.and_le_left
    omega
  have e3' : v3 = nI (pcC 252645135 (pcB 858993459 (pcA 1431655765 N))) := by
    rw [e3, e2', l4, z_ushr (by omega) (by omega), nI_add, lC, z_and]; rfl
  rw [hall] at e3'
  have e4' : v4 = nI (65536 * s2 + 256 * s1 + s0 + (256 * s2 + s1)) := by
    rw [e4, e3', l8, z_ushr (by omega) (by omega), nI_add]
    congr 1
    omega
  have e5' : v5 = nI (65536 * s2 + 256 * s1 + s0 + (256 * s2 + s1) + s2) := by
    rw [e5, e4', l16, z_ushr (by omega) (by omega), nI_add]
    congr 1
    omega
  rw [e5', l63, z_and, show (63 : Nat) = 2 ^ 6 - 1 from rfl, Nat.and_two_pow_sub_one_eq_mod]
  rw [show (65536 * s2 + 256 * s1 + s0 + (256 * s2 + s1) + s2) % 2 ^ 6 = s2 + s1 + s0 by omega]
  exact h
theorem sp_bitsOf {x : Int32} {N : Nat} (hx : x = nI N) (hN : N < 2 ^ 24) {Q : Int32 → Prop} (h : Q (nI (pop x))) : f_X11_bitsOf x Q := by
  subst hx
  obtain ⟨n0, n1, n2, h0, h1, h2, rfl⟩ := pc_24 hN
  rw [pop_nI, pc_bits h0 h1 h2] at h
  unfold f_X11_bitsOf
  have k0 := fb_ct_le n0.testBit 8
  have k1 := fb_ct_le n1.testBit 8
  have k2 := fb_ct_le n2.testBit 8
  have hall := pc_all h0 h1 h2
  generalize fb_ct n0.testBit 8 = s0 at *
  generalize fb_ct n1.testBit 8 = s1 at *
  generalize fb_ct n2.testBit 8 = s2 at *
  have l1 : (1 : Int32) = nI 1 := rfl
  have l2 : (2 : Int32) = nI 2 := rfl
  have l4 : (4 : Int32) = nI 4 := rfl
  have l24 : (24 : Int32) = nI 24 := rfl
  have lA : (1431655765 : Int32) = nI 1431655765 := rfl
  have lB : (858993459 : Int32) = nI 858993459 := rfl
  have lC : (252645135 : Int32) = nI 252645135 := rfl
  have lM : (16843009 : Int32) = nI 16843009 := rfl
  generalize hN' : 256 * (256 * n2 + n1) + n0 = N at *
  have hAle : (N / 2) &&& 1431655765 ≤ N := Nat.le_trans Nat.and_le_left (Nat.div_le_self _ _)
  intro v1 e1 v2 e2 v3 e3
  have e1' : v1 = nI (pcA 1431655765 N) := by
    rw [e1, l1, z_sshr (by omega) (by omega), lA, z_and, z_sub (by simpa using hAle)]; rfl
  have hA : pcA 1431655765 N < 2 ^ 24 := Nat.lt_of_le_of_lt (Nat.sub_le _ _) hN
  have e2' : v2 = nI (pcB 858993459 (pcA 1431655765 N)) := by
    rw [e2, e1', l2, z_sshr (by omega) (by omega), lB, z_and, z_and, nI_add]; rfl
  have hB : pcB 858993459 (pcA 1431655765 N) < 2 ^ 26 := by
    unfold pcB
    have a1 : pcA 1431655765 N &&& 858993459 ≤ pcA 1431655765 N := Nat.and_le_left
    have a2 : (pcA 1431655765 N / 4) &&& 858993459 ≤ pcA 1431655765 N / 4 := Nat.and_le_left
    omega
  have e3' : v3 = nI (pcC 252645135 (pcB 858993459 (pcA 1431655765 N))) := by
    rw [e3, e2', l4, z_sshr (by omega) (by omega), nI_add, lC, z_and]; rfl
  rw [hall] at e3'
  have hT : (65536 * s2 + 256 * s1 + s0) * 16843009 % 2 ^ 32 = 16777216 * (s2 + s1 + s0) + (65536 * (s2 + s1 + s0) + 256 * (s1 + s0) + s0) := by omega
  have hv : v3 * 16843009 = nI (16777216 * (s2 + s1 + s0) + (65536 * (s2 + s1 + s0) + 256 * (s1 + s0) + s0)) := by
    rw [e3', lM, z_mul, ← hT, z_mod]
  rw [hv, l24, z_sshr (by omega) (by omega)]
  rw [show (16777216 * (s2 + s1 + s0) + (65536 * (s2 + s1 + s0) + 256 * (s1 + s0) + s0)) / 2 ^ 24 = s2 + s1 + s0 by omega]
  exact h

theorem sp_in {v a b : Int32} {Q : Int32 → Prop} (h : Q (if a ≤ v ∧ v ≤ b then 1 else 0)) : f_X11_in v a b Q := by
  unfold f_X11_in
  dsimp only [kk_j1, kk_j0]
  by_cases h1 : v < a
  · have hn : ¬ (a ≤ v ∧ v ≤ b) := fun z => absurd z.1 (fa_of_lt h1).2.1
    rw [if_neg hn] at h
    exact ⟨fun _ => ⟨Or.inl rfl, h⟩, fun z => absurd h1 z⟩
  · refine ⟨fun z => absurd z h1, fun _ => ?_⟩
    by_cases h2 : b < v
    · have hn : ¬ (a ≤ v ∧ v ≤ b) := fun z => absurd z.2 (fa_of_lt h2).2.1
      rw [if_neg hn] at h
      exact ⟨fun _ => ⟨Or.inl rfl, h⟩, fun z => absurd h2 z⟩
    · rw [if_pos ⟨fa_of_nlt h1, fa_of_nlt h2⟩] at h
      exact ⟨fun z => absurd z h2, fun _ => ⟨Or.inr rfl, h⟩⟩
theorem sp_has {x : Int32} {k : Nat} (hk : k < 32) {Q : Int32 → Prop} (h : Q (if bt x k then 1 else 0)) : f_X11_has x (nI k) Q := by
  unfold f_X11_has
  dsimp only [kk_j1]
  rw [z_bit x hk]
  cases hb : bt x k with
  | true => rw [hb] at h; exact ⟨fun z => absurd rfl z, fun _ => ⟨Or.inr rfl, h⟩⟩
  | false => rw [hb] at h; exact ⟨fun _ => ⟨Or.inl rfl, h⟩, fun z => absurd z (by decide)⟩
/-- the least bit of a mask -/
def lsb (x : Int32) : Nat := fa_first (bt x) 32
theorem sp_lowestOf {x : Int32} (hx : lsb x < 32) {Q : Int32 → Prop} (h : Q (nI (lsb x))) : f_X11_lowestOf x Q := by
  unfold f_X11_lowestOf
  refine kk_lpI1 (fun v => ∃ k : Nat, k ≤ lsb x ∧ v = nI k) (fun v => 32 - v.toNatClampNeg) ?_ ⟨0, Nat.zero_le _, rfl⟩
  rintro rec v ⟨k, hk, rfl⟩ hrec
  refine sp_has (by omega) ?_
  by_cases hkl : k = lsb x
  · have hb : bt x k = true := by rw [hkl]; exact fa_first_yes _ _ hx
    rw [hb]
    refine ⟨fun _ => ?_, fun z => absurd z (by decide)⟩
    rw [hkl]; exact h
  · have hb : bt x k = false := fa_first_no _ 32 k (by unfold lsb at *; omega)
    rw [hb]
    refine ⟨fun z => absurd rfl z, fun _ => ?_⟩
    refine hrec _ ⟨k + 1, by omega, nI_1 k⟩ ?_
    rw [nI_1, nI_clamp (by omega), nI_clamp (by omega)]
    omega
/-- trailing zeros: below the least bit all ones, and 32 cases -/
def ntzG (y : Int32) : Int32 := if 0 < y then
    let a : Int32 × Int32 := if y ≤ 65536 then (y, 1) else (kk_ushr y 16, 1 + 16)
    let b : Int32 × Int32 := if a.1 ≤ 256 then a else (kk_ushr a.1 8, a.2 + 8)
    let c : Int32 × Int32 := if b.1 ≤ 16 then b else (kk_ushr b.1 4, b.2 + 4)
    let d : Int32 × Int32 := if c.1 ≤ 4 then c else (kk_ushr c.1 2, c.2 + 2)
    d.2 + kk_ushr d.1 1
  else y &&& 32
theorem ntzG_c : ∀ t, t < 32 → ntzG (nI (2 ^ t - 1)) = nI t := by decide +kernel
theorem sp_ntzG {x : Int32} {Q : Int32 → Prop} (h : Q (ntzG ((x ^^^ (-1 : Int32)) &&& (x - (1 : Int32))))) : f_J6_numberOfTrailingZeros_0f7a4 x Q := by
  unfold f_J6_numberOfTrailingZeros_0f7a4
  intro y hy
  rw [← hy] at h
  unfold ntzG at h
  refine ⟨fun c => ?_, fun c => ?_⟩
  · rw [if_pos c] at h
    dsimp only [kk_j2]
    refine ⟨fun c1 => ?_, fun c1 => ?_⟩
    · rw [if_pos c1] at h
      dsimp only at h
      refine ⟨fun c2 => ?_, fun c2 => ?_⟩
      · rw [if_pos c2] at h
        dsimp only at h
        refine ⟨fun c3 => ?_, fun c3 => ?_⟩
        · rw [if_pos c3] at h
          dsimp only at h
          exact ⟨fun c4 => by rw [if_pos c4] at h; exact h, fun c4 => by rw [if_neg c4] at h; exact h⟩
        · rw [if_neg c3] at h
          dsimp only at h
          exact ⟨fun c4 => by rw [if_pos c4] at h; exact h, fun c4 => by rw [if_neg c4] at h; exact h⟩
      · rw [if_neg c2] at h
        dsimp only at h
        refine ⟨fun c3 => ?_, fun c3 => ?_⟩
        · rw [if_pos c3] at h
          dsimp only at h
          exact ⟨fun c4 => by rw [if_pos c4] at h; exact h, fun c4 => by rw [if_neg c4] at h; exact h⟩
        · rw [if_neg c3] at h
          dsimp only at h
          exact ⟨fun c4 => by rw [if_pos c4] at h; exact h, fun c4 => by rw [if_neg c4] at h; exact h⟩
    · rw [if_neg c1] at h
      dsimp only at h
      intro w hw
      rw [← hw] at h
      refine ⟨fun c2 => ?_, fun c2 => ?_⟩
      · rw [if_pos c2] at h
        dsimp only at h
        refine ⟨fun c3 => ?_, fun c3 => ?_⟩
        · rw [if_pos c3] at h
          dsimp only at h
          exact ⟨fun c4 => by rw [if_pos c4] at h; exact h, fun c4 => by rw [if_neg c4] at h; exact h⟩
        · rw [if_neg c3] at h
          dsimp only at h
          exact ⟨fun c4 => by rw [if_pos c4] at h; exact h, fun c4 => by rw [if_neg c4] at h; exact h⟩
      · rw [if_neg c2] at h
        dsimp only at h
        refine ⟨fun c3 => ?_, fun c3 => ?_⟩
        · rw [if_pos c3] at h
          dsimp only at h
          exact ⟨fun c4 => by rw [if_pos c4] at h; exact h, fun c4 => by rw [if_neg c4] at h; exact h⟩
        · rw [if_neg c3] at h
          dsimp only at h
          exact ⟨fun c4 => by rw [if_pos c4] at h; exact h, fun c4 => by rw [if_neg c4] at h; exact h⟩
  · rw [if_neg c] at h
    exact h
/-- a number's bits ahead of its least one, and the number less one -/
theorem lsb_low {N t : Nat} (h1 : N.testBit t = true) (h0 : ∀ k, k < t → N.testBit k = false) : ∃ q, N = 2 ^ t * (2 * q + 1) := by
  have hm : N % 2 ^ t = 0 := by
    apply Nat.eq_of_testBit_eq
    intro i
    rw [Nat.testBit_mod_two_pow, Nat.zero_testBit]
    by_cases hi : i < t
    · rw [h0 i hi]; simp
    · simp [hi]
  have hd : N = 2 ^ t * (N / 2 ^ t) := by have := Nat.div_add_mod N (2 ^ t); omega
  have hb : (N / 2 ^ t) % 2 = 1 := by
    have := h1
    rw [Nat.testBit_eq_decide_div_mod_eq] at this
    simpa using this
  exact ⟨N / 2 ^ t / 2, by rw [show 2 * (N / 2 ^ t / 2) + 1 = N / 2 ^ t by omega]; exact hd⟩
theorem ntz_low {N t : Nat} (hN : N < 2 ^ 31) (h1 : N.testBit t = true) (h0 : ∀ k, k < t → N.testBit k = false) : (nI N ^^^ (-1 : Int32)) &&& (nI N - (1 : Int32)) = nI (2 ^ t - 1) := by
  obtain ⟨q, hq⟩ := lsb_low h1 h0
  have hp := Nat.two_pow_pos t
  have hN0 : 1 ≤ N := by
    rw [hq]
    exact Nat.le_trans hp (Nat.le_mul_of_pos_right _ (by omega))
  have hN1 : N - 1 = 2 ^ t * (2 * q) + (2 ^ t - 1) := by rw [hq, Nat.mul_add]; omega
  have e1 : nI N - (1 : Int32) = nI (N - 1) := z_sub hN0
  rw [e1]
  apply b_ext
  intro i hi
  rw [b_and, z_not _ hi, bt_nI i hi, bt_nI i hi, bt_nI i hi, Nat.testBit_two_pow_sub_one, hN1, Nat.testBit_two_pow_mul_add _ (by omega)]
  by_cases hit : i < t
  · rw [if_pos hit, h0 i hit, Nat.testBit_two_pow_sub_one]
    simp [hit]
  · rw [if_neg hit, hq, show 2 ^ t * (2 * q + 1) = 2 ^ t * (2 * q + 1) + 0 from rfl, Nat.testBit_two_pow_mul_add _ hp, if_neg hit]
    simp only [hit, decide_false]
    cases hj : i - t with
    | zero => simp
    | succ j =>
      rw [Nat.testBit_succ, Nat.testBit_succ]
      rw [show (2 * q + 1) / 2 = q by omega, show 2 * q / 2 = q by omega]
      cases q.testBit j <;> rfl
theorem sp_ntz {x : Int32} {N : Nat} (hx : x = nI N) (hN : N < 2 ^ 31) (hl : lsb x < 32) {Q : Int32 → Prop} (h : Q (nI (lsb x))) : f_J6_numberOfTrailingZeros_0f7a4 x Q := by
  refine sp_ntzG ?_
  have h1 : bt x (lsb x) = true := fa_first_yes _ _ hl
  have h0 : ∀ k, k < lsb x → bt x k = false := fun k hk => fa_first_no _ 32 k hk
  generalize lsb x = t at *
  subst hx
  rw [bt_nI t hl] at h1
  rw [ntz_low hN h1 (fun k hk => by have := h0 k hk; rw [bt_nI k (by omega)] at this; exact this), ntzG_c t hl]
  exact h
theorem sp_compare {x y : Int32} {Q : Int32 → Prop} (h : Q (if x < y then -1 else if x = y then 0 else 1)) : f_J6_compare_7cf53 x y Q := by
  unfold f_J6_compare_7cf53
  dsimp only [kk_j1]
  refine ⟨fun c => ?_, fun c => ?_⟩
  · have hn : ¬ x < y := fun z => absurd c (fa_of_lt z).2.1
    rw [if_neg hn] at h
    exact ⟨fun c2 => by rw [if_neg c2] at h; exact h, fun c2 => by rw [if_pos c2] at h; exact h⟩
  · rw [if_pos (fa_of_nle c)] at h
    exact h
