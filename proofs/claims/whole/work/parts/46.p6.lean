/-! pairs: free, clash, colour, post -/
theorem q_free : pr_free Rel := by
  rintro σ1 σ2 ⟨n, m, a, b, c, kp, ls, kf, gf, W, P, M, N, K, Z⟩ v1
  have hm := W.2.2.1
  have hn := W.2.1
  have hD := Dg_le8 W
  have same : Rel σ1 σ2 := ⟨n, m, a, b, c, kp, ls, kf, gf, W, P, M, N, K, Z⟩
  unfold f_X10_free
  refine sc_isLine N hm ?_
  dsimp only [kk_j1]
  refine bI_zn (fun h1 => ?_) (fun h1 => ?_)
  · unfold f_X11_free
    refine sm_isLine M hm ?_
    rw [h1]
    exact jn_f rfl ⟨rfl, same⟩
  · obtain ⟨k, hk, rfl⟩ := isIx_ex h1
    have hw := W.2.2.2.1 k hk
    refine sc_freeAtBoth N K W hk ?_
    unfold f_X11_free
    refine sm_isLine M hm ?_
    rw [h1]
    refine jn_t (by decide) ?_
    refine sm_degree M W ⟨vp_lt (by omega) (by omega), ?_⟩
    rw [rd_nI (by omega), rd_nI (by omega), M.2.2.1 k hk, M.2.2.2.1 k hk]
    refine sm_usedAt M W (Pr9 W P) (by omega) ⟨vp_lt (by omega) (by omega), ?_⟩
    refine sm_usedAt M W (Pr9 W P) (by omega) ⟨?_, same⟩
    rw [nI_1, mk_ones (by omega)]
    symm
    refine mk_ext (fun j hj => ?_)
    rw [b_and, b_and, z_not _ hj, z_not _ hj, mk_bt _ _ hj, mk_bt _ _ hj, mk_bt _ _ hj]
    by_cases hjD : j < Dg n m a b + 1
    · have : j < 9 := by omega
      simp [hjD, this]
    · simp [hjD]
theorem q_clash : pr_clash Rel := by
  rintro σ1 σ2 ⟨n, m, a, b, c, kp, ls, kf, gf, W, P, M, N, K, Z⟩ v1 v2
  have hm := W.2.2.1
  have hn := W.2.1
  have hD := Dg_le8 W
  have same : Rel σ1 σ2 := ⟨n, m, a, b, c, kp, ls, kf, gf, W, P, M, N, K, Z⟩
  unfold f_X10_clash
  refine sc_isLine N hm ?_
  dsimp only [kk_j0]
  refine bI_zn (fun h1 => ?_) (fun h1 => ?_)
  · unfold f_X11_clash
    refine sm_isLine M hm ?_
    rw [h1]
    exact br_t rfl ⟨rfl, same⟩
  · refine sc_isColour N W ?_
    refine bI_nz (fun h2 => ?_) (fun h2 => ?_)
    · obtain ⟨k, hk, rfl⟩ := isIx_ex h1
      obtain ⟨q, hq, rfl⟩ := isIx_ex h2
      have hw := W.2.2.2.1 k hk
      have mod : ∀ {Q : Int32 → Prop}, (c k = nI q → Q (nI k)) → (¬ c k = nI q → ¬ fI (fun j => inc a b j (a k) && decide (c j = nI q)) m = -1 → Q (fI (fun j => inc a b j (a k) && decide (c j = nI q)) m)) → (¬ c k = nI q → fI (fun j => inc a b j (a k) && decide (c j = nI q)) m = -1 → Q (if fI (fun j => inc a b j (b k) && decide (c j = nI q)) m = -1 then -2 else fI (fun j => inc a b j (b k) && decide (c j = nI q)) m)) → f_X11_clash (nI k) (nI q) σ2 Q := by
        intro Q g0 g1 g2
        unfold f_X11_clash
        refine sm_isLine M hm ?_
        rw [h1]
        refine br_f (by decide) ?_
        refine sm_isColour M W ?_
        rw [h2]
        refine jn_t (by decide) ⟨vp_lt (by omega) (by omega), ?_⟩
        rw [rd_nI (by omega), rd_nI (by omega), rd_nI (by omega), M.2.2.1 k hk, M.2.2.2.1 k hk, M.2.2.2.2 k hk]
        refine ⟨fun hz => ⟨vp_lt (by omega) (by omega), ?_⟩, fun hz => g0 hz⟩
        refine sm_lineWith M W (by omega) ?_
        refine ⟨fun hy => ⟨vp_lt (by omega) (by omega), ?_⟩, fun hy => g1 hz hy⟩
        refine sm_lineWith M W (by omega) ?_
        exact kj1_t (g2 hz hy)
      refine ⟨vp_lt (by omega) (by omega), ?_⟩
      rw [rd_nI (by omega), rd_nI (by omega), rd_nI (by omega), N.2.2.2.1 k hk, N.2.2.2.2.1 k hk, K.1 k (by omega), if_pos hk]
      refine ⟨fun hz => ⟨vp_lt (by omega) (by omega), ?_⟩, fun hz => mod (fun _ => ⟨rfl, same⟩) (fun y => absurd hz y) (fun y => absurd hz y)⟩
      refine sc_lineWith N K hm (by omega) (by omega) ?_
      refine ⟨fun hy => ⟨vp_lt (by omega) (by omega), ?_⟩, fun hy => mod (fun y => absurd y hz) (fun _ _ => ⟨rfl, same⟩) (fun _ y => absurd y hy)⟩
      refine sc_lineWith N K hm (by omega) (by omega) ?_
      refine kj1_t ?_
      exact mod (fun y => absurd y hz) (fun _ y => absurd hy y) (fun _ _ => ⟨rfl, same⟩)
    · unfold f_X11_clash
      refine sm_isLine M hm ?_
      rw [h1]
      refine br_f (by decide) ?_
      refine sm_isColour M W ?_
      rw [h2]
      exact jn_f rfl ⟨rfl, same⟩
theorem q_colour : pr_colour Rel := by
  rintro σ1 σ2 ⟨n, m, a, b, c, kp, ls, kf, gf, W, P, M, N, K, Z⟩ v1 v2
  have hm := W.2.2.1
  have hn := W.2.1
  have hD := Dg_le8 W
  have same : Rel σ1 σ2 := ⟨n, m, a, b, c, kp, ls, kf, gf, W, P, M, N, K, Z⟩
  unfold f_X10_colour
  refine sc_isColour N W ?_
  refine bI_nz (fun h1 => ?_) (fun h1 => ?_)
  · obtain ⟨q, hq, rfl⟩ := isIx_ex h1
    have mod : ∀ {Q : Int32 → Prop}, (v2 = nI 0 → Q (nI (fb_ct (fun k => decide (c k = nI q)) m))) → (v2 = nI 1 → Q (mk (fun k => decide (c k = nI q)) m)) → (v2 = nI 2 → Q (mk (fun p => !usd m a b c p (nI q)) n)) → (v2.toInt < 0 ∨ (3 : Int) ≤ v2.toInt → Q (-1)) → f_X11_colour (nI q) v2 σ2 Q := by
      intro Q g0 g1 g2 g3
      unfold f_X11_colour
      refine sm_isColour M W ?_
      rw [h1]
      refine jn_t (by decide) ⟨fun z => ?_, fun z => ?_, fun z => ?_, fun z => g3 z⟩
      · refine sm_allLines M hm ?_
        refine sm_manyWith M W ?_
        rw [fb_ct_cong (q := fun k => decide (c k = nI q)) (fun k hk => by rw [mk_bt _ _ (by omega)]; simp [hk])]
        exact g0 z
      · refine lf_2_1 m (by omega) (fun j x => x = mk (fun k => decide (c k = nI q)) j) (Nat.zero_le _) rfl ?_ ?_
        · rintro rec j x hj rfl hrec
          refine br_f (by rw [M.2.1]; exact nI_ge hj (by omega)) ⟨vp_lt (by omega) (by omega), ?_⟩
          dsimp only [kk_j1]
          rw [rd_nI (by omega), M.2.2.2.2 j hj]
          have hp := mk_push (fun k => decide (c k = nI q)) (n := j) (by omega)
          by_cases hc : c j = nI q
          · refine jn_f hc (fun x' hx' => hrec _ ?_)
            rw [← hp, if_pos (decide_eq_true hc), hx']
          · refine jn_t hc (hrec _ ?_)
            rw [← hp, if_neg (by simpa using hc)]
        · rintro rec x rfl
          exact br_t (by rw [M.2.1]; exact nI_le (Nat.le_refl _) (by omega)) (g1 z)
      · refine lf_2_1 n (by omega) (fun j x => x = mk (fun p => !usd m a b c p (nI q)) j) (Nat.zero_le _) rfl ?_ ?_
        · rintro rec j x hj rfl hrec
          refine br_f (by rw [M.1]; exact nI_ge hj (by omega)) ?_
          refine sm_isFreeAt M W (by omega) ?_
          dsimp only [kk_j1]
          have hp := mk_push (fun p => !usd m a b c p (nI q)) (n := j) (by omega)
          refine bI_zn (fun hz => hrec _ ?_) (fun hz x' hx' => hrec _ ?_)
          · rw [← hp, if_neg (by rw [hz]; decide)]
          · rw [← hp, if_pos hz, hx']
        · rintro rec x rfl
          exact br_t (by rw [M.1]; exact nI_le (Nat.le_refl _) (by omega)) (g2 z)
    refine ⟨vp_lt (by omega) (by omega), ?_⟩
    rw [rd_nI (by omega), K.2 q (by omega)]
    refine ⟨fun z => ?_, fun z => ?_, fun z => ?_, fun z => ?_⟩
    · refine sp_bitCountM (by omega) ?_
      exact mod (fun _ => ⟨rfl, same⟩) (fun y => absurd y (sw_ne z (by omega) (by omega) (by decide))) (fun y => absurd y (sw_ne z (by omega) (by omega) (by decide))) (fun y => absurd y (sw_out (by decide) z (by decide)))
    · exact mod (fun y => absurd y (sw_ne z (by omega) (by omega) (by decide))) (fun _ => ⟨rfl, same⟩) (fun y => absurd y (sw_ne z (by omega) (by omega) (by decide))) (fun y => absurd y (sw_out (by decide) z (by decide)))
    · refine sc_allPosts N hn ?_
      refine sc_postsOf N hn hm ?_
      rw [mk_andn]
      have e : mk (fun p => true && !anyb (fun k => decide (c k = nI q) && inc a b k p) m) n = mk (fun p => !usd m a b c p (nI q)) n := mk_cong (fun p _ => by
        rw [Bool.true_and]
        congr 1
        exact anyb_cong (fun k _ => Bool.and_comm _ _))
      rw [e]
      exact mod (fun y => absurd y (sw_ne z (by omega) (by omega) (by decide))) (fun y => absurd y (sw_ne z (by omega) (by omega) (by decide))) (fun _ => ⟨rfl, same⟩) (fun y => absurd y (sw_out (by decide) z (by decide)))
    · exact mod (fun y => absurd y (sw_big z (by decide) (by decide))) (fun y => absurd y (sw_big z (by decide) (by decide))) (fun y => absurd y (sw_big z (by decide) (by decide))) (fun _ => ⟨rfl, same⟩)
  · unfold f_X11_colour
    refine sm_isColour M W ?_
    rw [h1]
    exact jn_f rfl ⟨rfl, same⟩
/-- leading zeros, of masks of nine bits -/
def nlzG (x : Int32) : Int32 := if 0 < x then
    let a : Int32 × Int32 := if x < 65536 then (x, 31) else (kk_ushr x 16, 31 + -16)
    let b : Int32 × Int32 := if a.1 < 256 then a else (kk_ushr a.1 8, a.2 + -8)
    let c : Int32 × Int32 := if b.1 < 16 then b else (kk_ushr b.1 4, b.2 + -4)
    let d : Int32 × Int32 := if c.1 < 4 then c else (kk_ushr c.1 2, c.2 + -2)
    d.2 - kk_ushr d.1 1
  else if x = 0 then 32 else 0
theorem nlzG_c : ∀ N, N < 512 → ∀ t, t < 9 → N.testBit t = true → (∀ j, j < 9 → t < j → N.testBit j = false) → (31 : Int32) - nlzG (nI N) = nI t := by decide +kernel
theorem nlz_pos : ∀ N, N < 512 → 0 < N → (0 : Int32) < nI N ∧ nI N < 65536 := by decide +kernel
theorem sp_nlz {x : Int32} (hx : 0 < x ∧ x < 65536) {Q : Int32 → Prop} (h : Q (nlzG x)) : f_J6_numberOfLeadingZeros_0f7a4 x Q := by
  unfold f_J6_numberOfLeadingZeros_0f7a4
  unfold nlzG at h
  rw [if_pos hx.1] at h
  dsimp only [kk_j2]
  refine br_t hx.1 (br_t hx.2 ?_)
  rw [if_pos hx.2] at h
  dsimp only at h
  refine ⟨fun c2 => ?_, fun c2 => ?_⟩
  · rw [if_pos c2] at h
    dsimp only at h
    refine ⟨fun c3 => ?_, fun c3 => ?_⟩
    · rw [if_pos c3] at h
      dsimp only at h
      exact ⟨fun c4 => by rw [if_pos c4] at h; exact h, fun c4 => by rw [if_neg c4] at h; exact h⟩
    · rw [if_neg c3] at h
      dsimp only at h
      exact ⟨fun c4 => by rw [if_pos c4] at h; exact h, fun c4 => by rw [if_neg c4] at h; exact h⟩
  · rw [if_neg c2] at h
    dsimp only at h
    refine ⟨fun c3 => ?_, fun c3 => ?_⟩
    · rw [if_pos c3] at h
      dsimp only at h
      exact ⟨fun c4 => by rw [if_pos c4] at h; exact h, fun c4 => by rw [if_neg c4] at h; exact h⟩
    · rw [if_neg c3] at h
      dsimp only at h
      exact ⟨fun c4 => by rw [if_pos c4] at h; exact h, fun c4 => by rw [if_neg c4] at h; exact h⟩
theorem sp_greatestBit {P : Nat → Bool} {t : Nat} (ht : t < 9) (h1 : P t = true) (h0 : ∀ j, j < 9 → t < j → P j = false) {Q : Int32 → Prop} (h : Q (nI t)) : f_X10_greatestBit (mk P 9) Q := by
  unfold f_X10_greatestBit
  have hlt : mN P 9 < 512 := mN_lt P 9
  have b1 : (mN P 9).testBit t = true := by rw [mN_bit]; simp [ht, h1]
  have hpos : 0 < mN P 9 := by
    rcases Nat.eq_zero_or_pos (mN P 9) with z | z
    · rw [z, Nat.zero_testBit] at b1; cases b1
    · exact z
  refine sp_nlz (nlz_pos _ hlt hpos) ?_
  have e := nlzG_c (mN P 9) hlt t ht b1 (fun j hj htj => by rw [mN_bit, h0 j hj htj]; simp)
  show Q ((31 : Int32) - nlzG (nI (mN P 9)))
  rw [e]
  exact h
/-- the last place of a predicate -/
theorem last_ex (P : Nat → Bool) : ∀ n, (∃ t, t < n ∧ P t = true ∧ ∀ j, j < n → t < j → P j = false) ∨ ∀ k, k < n → P k = false
  | 0 => Or.inr (fun k hk => absurd hk (Nat.not_lt_zero _))
  | n + 1 => by
    cases hp : P n with
    | true => exact Or.inl ⟨n, by omega, hp, fun j hj htj => by omega⟩
    | false =>
      rcases last_ex P n with ⟨t, ht, h1, h0⟩ | h0
      · refine Or.inl ⟨t, by omega, h1, fun j hj htj => ?_⟩
        by_cases hjn : j = n
        · rw [hjn]; exact hp
        · exact h0 j (by omega) htj
      · refine Or.inr (fun k hk => ?_)
        by_cases hkn : k = n
        · rw [hkn]; exact hp
        · exact h0 k (by omega)
/-- at one post a colour stands once -/
theorem one_line {n m : Nat} {a b : Nat → Nat} {c : Nat → Int32} (P : Pr n m a b c) {i j p : Nat} (hi : i < m) (hj : j < m) (h1 : inc a b i p = true) (h2 : inc a b j p = true) (he : c i = c j) (hc : c i ≠ -1) : i = j := by
  by_cases h : i = j
  · exact h
  · exact absurd (P.2 i j hi hj (mts_iff.mpr ⟨h, p, h1, h2⟩) he) hc
theorem q_post : pr_post Rel := by
  rintro σ1 σ2 ⟨n, m, a, b, c, kp, ls, kf, gf, W, P, M, N, K, Z⟩ v1 v2
  have hm := W.2.2.1
  have hn := W.2.1
  have hD := Dg_le8 W
  have same : Rel σ1 σ2 := ⟨n, m, a, b, c, kp, ls, kf, gf, W, P, M, N, K, Z⟩
  unfold f_X10_post
  refine sc_isPost N hn ?_
  refine bI_nz (fun h1 => ?_) (fun h1 => ?_)
  · obtain ⟨p, hp, rfl⟩ := isIx_ex h1
    obtain ⟨t, ht, ht1, ht0⟩ := free_ex (c := c) hp hD
    -- the line with the greatest colour
    have big : ∃ x : Int32, ((∀ k, k < m → inc a b k p = true → c k = -1) → x = -1) ∧ (∀ k, k < m → inc a b k p = true → c k ≠ -1 → (∀ j, j < m → inc a b j p = true → c j ≤ c k) → x = nI k) := by
      by_cases hz : ∀ k, k < m → inc a b k p = true → c k = -1
      · exact ⟨-1, fun _ => rfl, fun k hk hi hc => absurd (hz k hk hi) hc⟩
      · by_cases hy : ∃ k, k < m ∧ inc a b k p = true ∧ c k ≠ -1 ∧ ∀ j, j < m → inc a b j p = true → c j ≤ c k
        · obtain ⟨k, hk, hi, hc, hmax⟩ := hy
          refine ⟨nI k, fun z => absurd z hz, fun j hj hij hcj hmax2 => ?_⟩
          have : k = j := one_line P hk hj hi hij (by
            have q1 := hmax j hj hij
            have q2 := hmax2 k hk hi
            rw [Int32.le_iff_toInt_le] at q1 q2
            exact Int32.toInt_inj.mp (by omega)) hc
          rw [this]
        · exact ⟨-1, fun _ => rfl, fun k hk hi hc hmax => absurd ⟨k, hk, hi, hc, hmax⟩ hy⟩
    obtain ⟨x, bx0, bx1⟩ := big
    have mod : ∀ {Q : Int32 → Prop}, (v2 = nI 0 → Q (nI (dg m a b p))) → (v2 = nI 1 → Q (mk (fun q => usd m a b c p (nI q)) 9)) → (v2 = nI 2 → Q (nI t)) → (v2 = nI 3 → Q x) → (v2.toInt < 0 ∨ (4 : Int) ≤ v2.toInt → Q (-1)) → f_X11_post (nI p) v2 σ2 Q := by
      intro Q g0 g1 g2 g3 g4
      unfold f_X11_post
      refine sm_isPost M hn ?_
      rw [h1]
      refine jn_t (by decide) ⟨fun z => ?_, fun z => ?_, fun z => ?_, fun z => ?_, fun z => g4 z⟩
      · refine sm_allLines M hm ?_
        refine sm_linesAt M W (by omega) ?_
        have e : dgS m a b (bt (mk (fun _ => true) m)) p = dg m a b p := fb_ct_cong (fun k hk => by rw [mk_bt _ _ (by omega)]; simp [hk])
        rw [e]
        exact g0 z
      · exact sm_usedAt M W (Pr9 W P) (by omega) (g1 z)
      · exact sm_leastFreeAt M W (by omega) ht ht1 ht0 (g2 z)
      · refine lf_2_1 m (by omega) (fun j y => (y = -1 ∧ ∀ k, k < j → inc a b k p = true → c k = -1) ∨ (∃ k, k < j ∧ y = nI k ∧ inc a b k p = true ∧ c k ≠ -1 ∧ ∀ i, i < j → inc a b i p = true → c i ≤ c k)) (Nat.zero_le _) (Or.inl ⟨rfl, fun k hk => absurd hk (Nat.not_lt_zero _)⟩) ?_ ?_
        · intro rec j y hj hI hrec
          refine br_f (by rw [M.2.1]; exact nI_ge hj (by omega)) ?_
          refine sm_isAt M W hj (by omega) ?_
          dsimp only [kk_j1, kk_j0]
          have keep : (inc a b j p = true → c j = -1) → rec y (nI j + 1) := by
            intro hz
            refine hrec _ ?_
            rcases hI with ⟨rfl, hI⟩ | ⟨k, hk, rfl, hi, hc, hmax⟩
            · refine Or.inl ⟨rfl, fun k hk hik => ?_⟩
              by_cases hkj : k = j
              · rw [hkj] at hik ⊢; exact hz hik
              · exact hI k (by omega) hik
            · refine Or.inr ⟨k, by omega, rfl, hi, hc, fun i hi2 hii => ?_⟩
              by_cases hij : i = j
              · rw [hij] at hii ⊢
                rw [hz hii]
                rcases Pr9 W P k (by omega) with hq | ⟨q, hq, hq2⟩
                · exact absurd hq hc
                · rw [hq2, Int32.le_iff_toInt_le, nI_toInt (by omega), show (-1 : Int32).toInt = -1 from rfl]; omega
              · exact hmax i (by omega) hii
          refine bI_zn (fun hz => keep (fun z => by rw [hz] at z; cases z)) (fun hz => ⟨vp_lt (by omega) (by omega), ?_⟩)
          rw [rd_nI (by omega), M.2.2.2.2 j hj]
          rcases Pr9 W P j hj with hc | ⟨q, hq, hc⟩
          · exact br_t (by rw [hc]; decide) (keep (fun _ => hc))
          · refine br_f (by rw [hc]; exact nI_pos (by omega)) ?_
            have hne : c j ≠ -1 := by rw [hc]; exact nI_ne_m1 (by omega)
            rcases hI with ⟨rfl, hI⟩ | ⟨k, hk, rfl, hi, hck, hmax⟩
            · refine br_t rfl (hrec _ (Or.inr ⟨j, by omega, rfl, hz, hne, fun i hi hii => ?_⟩))
              by_cases hij : i = j
              · rw [hij]; exact Int32.le_refl _
              · rw [hI i (by omega) hii, hc, Int32.le_iff_toInt_le, nI_toInt (by omega), show (-1 : Int32).toInt = -1 from rfl]; omega
            · refine br_f (nI_ne_m1 (by omega)) ⟨vp_lt (by omega) (by omega), vp_lt (by omega) (by omega), ?_⟩
              rw [rd_nI (by omega), M.2.2.2.2 k (by omega)]
              refine ⟨fun hle => hrec _ (Or.inr ⟨k, by omega, rfl, hi, hck, fun i hi2 hii => ?_⟩), fun hle => hrec _ (Or.inr ⟨j, by omega, rfl, hz, hne, fun i hi2 hii => ?_⟩)⟩
              · by_cases hij : i = j
                · rw [hij]; exact hle
                · exact hmax i (by omega) hii
              · by_cases hij : i = j
                · rw [hij]; exact Int32.le_refl _
                · have q1 := hmax i (by omega) hii
                  rw [Int32.le_iff_toInt_le] at q1 hle ⊢
                  omega
        · intro rec y hI
          refine br_t (by rw [M.2.1]; exact nI_le (Nat.le_refl _) (by omega)) ?_
          have hx := g3 z
          rcases hI with ⟨rfl, hI⟩ | ⟨k, hk, rfl, hi, hc, hmax⟩
          · rw [bx0 hI] at hx; exact hx
          · rw [bx1 k hk hi hc hmax] at hx; exact hx
    refine sc_coloursAt N K hm (by omega) ?_
    refine ⟨fun z => ⟨vp_lt (by omega) (by omega), ?_⟩, fun z => ?_, fun z => ?_, fun z => ?_, fun z => ?_⟩
    · rw [rd_nI (by omega), N.2.2.2.2.2.2.1 p (by omega)]
      refine sp_bitCountM (by omega) ?_
      exact mod (fun _ => ⟨rfl, same⟩) (fun y => absurd y (sw_ne z (by omega) (by omega) (by decide))) (fun y => absurd y (sw_ne z (by omega) (by omega) (by decide))) (fun y => absurd y (sw_ne z (by omega) (by omega) (by decide))) (fun y => absurd y (sw_out (by decide) z (by decide)))
    · exact mod (fun y => absurd y (sw_ne z (by omega) (by omega) (by decide))) (fun _ => ⟨rfl, same⟩) (fun y => absurd y (sw_ne z (by omega) (by omega) (by decide))) (fun y => absurd y (sw_ne z (by omega) (by omega) (by decide))) (fun y => absurd y (sw_out (by decide) z (by decide)))
    · refine sc_leastFreeAt N K W (by omega) ht ht1 ht0 ?_
      exact mod (fun y => absurd y (sw_ne z (by omega) (by omega) (by decide))) (fun y => absurd y (sw_ne z (by omega) (by omega) (by decide))) (fun _ => ⟨rfl, same⟩) (fun y => absurd y (sw_ne z (by omega) (by omega) (by decide))) (fun y => absurd y (sw_out (by decide) z (by decide)))
    · have fin : f_X11_post (nI p) v2 σ2 (fun r' => x = r' ∧ Rel σ1 σ2) := mod (fun y => absurd y (sw_ne z (by omega) (by omega) (by decide))) (fun y => absurd y (sw_ne z (by omega) (by omega) (by decide))) (fun y => absurd y (sw_ne z (by omega) (by omega) (by decide))) (fun _ => ⟨rfl, same⟩) (fun y => absurd y (sw_out (by decide) z (by decide)))
      dsimp only [kk_j1]
      rcases last_ex (fun q => usd m a b c p (nI q)) 9 with ⟨g, hg, hg1, hg0⟩ | h0
      · have hne : ¬ mk (fun q => usd m a b c p (nI q)) 9 = 0 := fun y => by
          have := (mk_eq0 (by omega)).mp y g hg
          rw [hg1] at this; cases this
        refine jn_t hne ?_
        refine sp_greatestBit hg hg1 hg0 ?_
        refine sc_lineWith N K hm (by omega) hg ?_
        obtain ⟨k, hk, hk2⟩ := anyb_iff.mp hg1
        simp only [Bool.and_eq_true, decide_eq_true_eq] at hk2
        have hkne : c k ≠ -1 := by rw [hk2.2]; exact nI_ne_m1 (by omega)
        have e : fI (fun j => inc a b j p && decide (c j = nI g)) m = nI k := fI_at hk (by rw [hk2.1, decide_eq_true hk2.2]; rfl) (fun j hj => by
          cases hz : (inc a b j p && decide (c j = nI g)) with
          | false => rfl
          | true =>
            simp only [Bool.and_eq_true, decide_eq_true_eq] at hz
            have := one_line P hk (by omega) hk2.1 hz.1 (by rw [hk2.2, hz.2]) hkne
            omega)
        rw [e]
        rw [bx1 k hk hk2.1 hkne (fun j hj hij => ?_)] at fin
        · exact fin
        · rw [hk2.2]
          rcases Pr9 W P j hj with hq | ⟨q, hq, hq2⟩
          · rw [hq, Int32.le_iff_toInt_le, nI_toInt (by omega), show (-1 : Int32).toInt = -1 from rfl]; omega
          · rw [hq2]
            refine nI_le ?_ (by omega)
            by_cases hgq : g < q
            · have := hg0 q hq hgq
              have hu := anyb_no.mp this j hj
              rw [hij, decide_eq_true hq2] at hu
              cases hu
            · omega
      · refine jn_f ((mk_eq0 (by omega)).mpr h0) ?_
        rw [bx0 (fun k hk hi => ?_)] at fin
        · exact fin
        · rcases Pr9 W P k hk with hq | ⟨q, hq, hq2⟩
          · exact hq
          · have hu := anyb_no.mp (h0 q hq) k hk
            rw [hi, decide_eq_true hq2] at hu
            cases hu
    · exact mod (fun y => absurd y (sw_big z (by decide) (by decide))) (fun y => absurd y (sw_big z (by decide) (by decide))) (fun y => absurd y (sw_big z (by decide) (by decide))) (fun y => absurd y (sw_big z (by decide) (by decide))) (fun _ => ⟨rfl, same⟩)
  · unfold f_X11_post
    refine sm_isPost M hn ?_
    rw [h1]
    exact jn_f rfl ⟨rfl, same⟩
