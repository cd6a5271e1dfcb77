/-! pair: count -/
/-- a colour's place, from one on; none is 0 -/
def cv (x : Int32) : Nat := if x = -1 then 0 else x.toNatClampNeg + 1
def enc (g : Nat) : Int32 := if g = 0 then -1 else nI (g - 1)
def cnq (m : Nat) (c : Nat → Int32) (q : Nat) : Nat := fb_ct (fun k => decide (c k = nI q)) m
theorem cv_nI {q : Nat} (hq : q < 9) : cv (nI q) = q + 1 := by
  unfold cv; rw [if_neg (nI_ne_m1 (by omega)), nI_clamp (by omega)]
theorem enc_lt {g k : Nat} (hg : g ≤ 9) (hk : k ≤ 100) : enc g < nI k ↔ g ≤ k := by
  unfold enc
  by_cases h : g = 0
  · rw [if_pos h, Int32.lt_iff_toInt_lt, nI_toInt (by omega), show (-1 : Int32).toInt = -1 from rfl]
    omega
  · rw [if_neg h, Int32.lt_iff_toInt_lt, nI_toInt (by omega), nI_toInt (by omega)]
    omega
theorem enc_le {x y : Nat} (hx : x ≤ 9) (hy : y ≤ 9) : enc x ≤ enc y ↔ x ≤ y := by
  unfold enc
  by_cases h : x = 0
  · rw [if_pos h]
    by_cases h' : y = 0
    · rw [if_pos h']
      exact ⟨fun _ => by omega, fun _ => Int32.le_refl _⟩
    · rw [if_neg h', Int32.le_iff_toInt_le, nI_toInt (by omega), show (-1 : Int32).toInt = -1 from rfl]
      omega
  · rw [if_neg h]
    by_cases h' : y = 0
    · rw [if_pos h', Int32.le_iff_toInt_le, nI_toInt (by omega), show (-1 : Int32).toInt = -1 from rfl]
      omega
    · rw [if_neg h', Int32.le_iff_toInt_le, nI_toInt (by omega), nI_toInt (by omega)]
      omega
def mnq (f : Nat → Nat) (B : Nat) : Nat → Nat
  | 0 => B
  | n + 1 => if f n = 0 then mnq f B n else if f n < mnq f B n then f n else mnq f B n
theorem mnq_le {f : Nat → Nat} {B : Nat} : ∀ n, mnq f B n ≤ B
  | 0 => Nat.le_refl _
  | n + 1 => by
    have := mnq_le (f := f) (B := B) n
    rw [mnq]; split
    · exact this
    · split <;> omega
theorem mnq_same {f : Nat → Nat} (hf : ∀ k, f k ≤ 20) : ∀ n, (mx f n = 0 ∧ mnq f 20 n = 20 ∧ mnq f 21 n = 21) ∨ (0 < mx f n ∧ mnq f 20 n = mnq f 21 n ∧ mnq f 21 n ≤ mx f n)
  | 0 => Or.inl ⟨rfl, rfl, rfl⟩
  | n + 1 => by
    have := hf n
    rw [mx, mnq, mnq]
    rcases mnq_same hf n with ⟨h1, h2, h3⟩ | ⟨h1, h2, h3⟩
    · rw [h1, h2, h3]
      by_cases h0 : f n = 0
      · left; rw [if_neg (by omega), if_pos h0, if_pos h0]; exact ⟨rfl, rfl, rfl⟩
      · right
        rw [if_pos (by omega), if_neg h0, if_neg h0]
        rw [if_pos (show f n < 21 by omega)]
        by_cases h20 : f n < 20
        · rw [if_pos h20]; omega
        · rw [if_neg h20]; omega
    · right
      rw [h2]
      by_cases h0 : f n = 0
      · rw [if_neg (by omega), if_pos h0]; exact ⟨h1, rfl, h3⟩
      · rw [if_neg h0]
        by_cases hlt : f n < mnq f 21 n
        · rw [if_pos hlt]
          refine ⟨by split <;> omega, rfl, by split <;> omega⟩
        · rw [if_neg hlt]
          refine ⟨by split <;> omega, rfl, by split <;> omega⟩
theorem mx_tail {f : Nat → Nat} {g : Nat} : ∀ {n : Nat}, g ≤ n → (∀ q, g ≤ q → q < n → f q = 0) → mx f n = mx f g
  | 0, h, _ => by have : g = 0 := by omega
                  rw [this]
  | n + 1, h, h0 => by
    by_cases hg : g = n + 1
    · rw [hg]
    · rw [mx, h0 n (by omega) (by omega), if_neg (by omega)]
      exact mx_tail (by omega) (fun q h1 h2 => h0 q h1 (by omega))
theorem mnq_tail {f : Nat → Nat} {g B : Nat} : ∀ {n : Nat}, g ≤ n → (∀ q, g ≤ q → q < n → f q = 0) → mnq f B n = mnq f B g
  | 0, h, _ => by have : g = 0 := by omega
                  rw [this]
  | n + 1, h, h0 => by
    by_cases hg : g = n + 1
    · rw [hg]
    · rw [mnq, h0 n (by omega) (by omega), if_pos rfl]
      exact mnq_tail (by omega) (fun q h1 h2 => h0 q h1 (by omega))
theorem ct_tail {f : Nat → Bool} {g : Nat} : ∀ {n : Nat}, g ≤ n → (∀ q, g ≤ q → q < n → f q = false) → fb_ct f n = fb_ct f g
  | 0, h, _ => by have : g = 0 := by omega
                  rw [this]
  | n + 1, h, h0 => by
    by_cases hg : g = n + 1
    · rw [hg]
    · rw [fb_ct_succ, h0 n (by omega) (by omega)]
      exact ct_tail (by omega) (fun q h1 h2 => h0 q h1 (by omega))
section
variable {n m : Nat} {a b : Nat → Nat} {c : Nat → Int32} {σ : kk_St}
theorem cnq_le {q : Nat} : cnq m c q ≤ m := fb_ct_le _ _
theorem gu_le (h9 : ∀ k, k < m → c k = -1 ∨ ∃ q, q < 9 ∧ c k = nI q) : mx (fun k => cv (c k)) m ≤ 9 := mx_le (fun k hk => by
  rcases h9 k hk with h | ⟨q, hq, h⟩
  · rw [h]; decide
  · rw [h, cv_nI hq]; omega)
theorem gu_no (h9 : ∀ k, k < m → c k = -1 ∨ ∃ q, q < 9 ∧ c k = nI q) {q : Nat} (hq : q < 9) (hg : mx (fun k => cv (c k)) m ≤ q) : cnq m c q = 0 := fb_ct_zero.mpr (fun k hk => decide_eq_false (fun z => by
  have := mx_ge (fun k => cv (c k)) hk
  rw [z, cv_nI hq] at this
  omega))
theorem sm_greatestUsed (M : RM n m a b c σ) (hm : m ≤ 20) (h9 : ∀ k, k < m → c k = -1 ∨ ∃ q, q < 9 ∧ c k = nI q) {Q : Int32 → Prop} (h : Q (enc (mx (fun k => cv (c k)) m))) : f_X11_greatestUsed σ Q := by
  unfold f_X11_greatestUsed
  refine lf_2_1 m (by omega) (fun k x => x = enc (mx (fun k => cv (c k)) k)) (k0 := 0) (by omega) rfl ?_ ?_
  · rintro rec k x hk rfl hrec
    refine br_f (by rw [M.2.1]; exact nI_ge hk (by omega)) ⟨vp_lt (by omega) (by omega), ?_⟩
    rw [rd_nI (by omega), M.2.2.2.2 k hk]
    dsimp only [kk_j1]
    have e : c k = enc (cv (c k)) := by
      rcases h9 k hk with h | ⟨q, hq, h⟩
      · rw [h]; rfl
      · rw [h, cv_nI hq, enc, if_neg (by omega), Nat.add_sub_cancel]
    have l1 : cv (c k) ≤ 9 := by
      rcases h9 k hk with h | ⟨q, hq, h⟩
      · rw [h]; decide
      · rw [h, cv_nI hq]; omega
    have l2 : mx (fun k => cv (c k)) k ≤ 9 := gu_le (fun j hj => h9 j (by omega))
    refine ⟨fun z => hrec _ ?_, fun z => ⟨vp_lt (by omega) (by omega), hrec _ ?_⟩⟩
    · rw [e, enc_le l1 l2] at z
      rw [mx, if_neg (by omega)]
    · rw [e, enc_le l1 l2] at z
      rw [mx, if_pos (by omega)]
      exact e
  · rintro rec x rfl
    exact br_t (by rw [M.2.1]; exact nI_le (Nat.le_refl _) (by omega)) h
theorem many_all {q : Nat} (hm : m ≤ 20) : fb_ct (fun k => bt (mk (fun _ => true) m) k && decide (c k = nI q)) m = cnq m c q := fb_ct_cong (fun k hk => by rw [mk_bt _ _ (by omega)]; simp [hk])
theorem sc_rd17 (K : RK m c σ) {q : Nat} (hq : q < 9) (hm : m ≤ 20) : kk_rd σ 17 (nI q) = 0 ↔ cnq m c q = 0 := by
  rw [rd_nI (by omega), K.2 q hq, mk_eq0 (by omega)]
  exact fb_ct_zero.symm
theorem sm_free (M : RM n m a b c σ) (W : Wf n m a b) (P : Pr n m a b c) {k : Nat} (hk : k < m) {Q : Int32 → Prop} (h : Q (mk (fun q => !usd m a b c (a k) (nI q) && !usd m a b c (b k) (nI q)) (Dg n m a b + 1))) : f_X11_free (nI k) σ Q := by
  have hm := W.2.2.1
  have hn := W.2.1
  have hD := Dg_le8 W
  have hw := W.2.2.2.1 k hk
  unfold f_X11_free
  refine sm_isLine M hm ?_
  rw [isIx_lt (by omega) hk]
  refine jn_t (by decide) ?_
  refine sm_degree M W ⟨vp_lt (by omega) (by omega), ?_⟩
  rw [rd_nI (by omega), rd_nI (by omega), M.2.2.1 k hk, M.2.2.2.1 k hk]
  refine sm_usedAt M W (Pr9 W P) (by omega) ⟨vp_lt (by omega) (by omega), ?_⟩
  refine sm_usedAt M W (Pr9 W P) (by omega) ?_
  rw [nI_1, mk_ones (by omega)]
  have e : ∀ {x y : Int32}, x = y → Q x → Q y := fun e h => e ▸ h
  refine e ?_ h
  symm
  refine mk_ext (fun j hj => ?_)
  rw [b_and, b_and, z_not _ hj, z_not _ hj, mk_bt _ _ hj, mk_bt _ _ hj, mk_bt _ _ hj]
  by_cases hjD : j < Dg n m a b + 1
  · have : j < 9 := by omega
    simp [hjD, this]
  · simp [hjD]
theorem easy_eq {x : Nat → Bool} {D : Nat} (hD : D ≤ 8) : mk x (D + 1) &&& (((1 : Int32) <<< (nI D &&& 31)) - 1) = mk x D := by
  rw [mk_ones (by omega)]
  refine mk_ext (fun j hj => ?_)
  rw [b_and, mk_bt _ _ hj, mk_bt _ _ hj]
  by_cases h1 : j < D
  · simp [h1, show j < D + 1 by omega]
  · simp [h1]
end
theorem q_count : pr_count Rel := by
  rintro σ1 σ2 ⟨n, m, a, b, c, kp, ls, kf, gf, W, P, M, N, K, Z⟩ v1
  have hm := W.2.2.1
  have hn := W.2.1
  have hD := Dg_le8 W
  have same : Rel σ1 σ2 := ⟨n, m, a, b, c, kp, ls, kf, gf, W, P, M, N, K, Z⟩
  have h9 := Pr9 W P
  have hg := gu_le (m := m) (c := c) h9
  have hno := fun q => gu_no (m := m) (c := c) (q := q) h9
  have hcq := fun q => cnq_le (m := m) (c := c) (q := q)
  have bad : ∀ {i j : Nat}, i < 8 → j < 8 → i ≠ j → v1 = nI i → ¬ v1 = nI j := fun hi hj hne h1 h2 => hne ((nI_ne (by omega) (by omega)).mp (h1.symm.trans h2))
  have out : ∀ {i : Nat}, i < 8 → v1 = nI i → ¬ (v1.toInt < 0 ∨ (8 : Int) ≤ v1.toInt) := fun hi h1 h2 => by
    rw [h1, nI_toInt (by omega)] at h2
    omega
  unfold f_X10_count f_X11_count
  refine ⟨fun z => ?_, fun z => ?_, fun z => ?_, fun z => ?_, fun z => ?_, fun z => ?_, fun z => ?_, fun z => ?_, fun z => ?_⟩
  · refine ⟨fun _ => ⟨by rw [N.1, M.1], same⟩, ?_, ?_, ?_, ?_, ?_, ?_, ?_, fun y => absurd y (out (by omega) z)⟩
    all_goals exact fun y => absurd y (bad (by omega) (by omega) (by decide) z)
  · refine ⟨?_, fun _ => ⟨by rw [N.2.1, M.2.1], same⟩, ?_, ?_, ?_, ?_, ?_, ?_, fun y => absurd y (out (by omega) z)⟩
    all_goals exact fun y => absurd y (bad (by omega) (by omega) (by decide) z)
  · refine ⟨?_, ?_, fun _ => sm_degree M W ⟨by rw [N.2.2.1], same⟩, ?_, ?_, ?_, ?_, ?_, fun y => absurd y (out (by omega) z)⟩
    all_goals exact fun y => absurd y (bad (by omega) (by omega) (by decide) z)
  · unfold f_X3_bareLines
    refine sc_allLines N hm ?_
    refine lf_2_1 9 (by omega) (fun k x => x = mk (fun l => !anyb (fun q => decide (c l = nI q)) k) m) (k0 := 0) (by omega) rfl ?_ ?_
    · rintro rec k x hk rfl hrec
      refine br_f (nI_ge (b := 9) hk (by omega)) ⟨vp_lt (by omega) (by omega), fun y ey => hrec _ ?_⟩
      rw [ey, rd_nI (by omega), K.2 k hk, mk_andn]
      refine mk_cong (fun l _ => ?_)
      rw [anyb]; simp
    · rintro rec x rfl
      refine br_t (nI_le (a := 9) (Nat.le_refl _) (by omega)) ?_
      refine sp_bitCountM (by omega) ?_
      refine ⟨?_, ?_, ?_, fun _ => ?_, ?_, ?_, ?_, ?_, fun y => absurd y (out (by omega) z)⟩
      case refine_4 =>
        unfold f_X11_bareMany
        refine sm_allLines M hm ?_
        refine sm_manyWith M W ⟨?_, same⟩
        congr 1
        refine fb_ct_cong (fun k hk => ?_)
        rw [mk_bt _ _ (by omega), decide_eq_true hk, Bool.true_and, Bool.true_and]
        rcases h9 k hk with h | ⟨q, hq, h⟩
        · rw [anyb_no.mpr (fun q hq => decide_eq_false (fun y => nI_ne_m1 (k := q) (by omega) (y.symm.trans h))), h]; rfl
        · rw [anyb_iff.mpr ⟨q, hq, decide_eq_true h⟩, h, decide_eq_false (nI_ne_m1 (by omega))]; rfl
      all_goals exact fun y => absurd y (bad (by omega) (by omega) (by decide) z)
  · unfold f_X3_usedColours
    refine lf_2_1 9 (by omega) (fun k x => x = nI (fb_ct (fun q => !decide (cnq m c q = 0)) k)) (k0 := 0) (by omega) rfl ?_ ?_
    · rintro rec k x hk rfl hrec
      refine br_f (nI_ge (b := 9) hk (by omega)) ⟨vp_lt (by omega) (by omega), ?_⟩
      dsimp only [kk_j1]
      refine ⟨fun y => hrec _ ?_, fun y => hrec _ ?_⟩
      · rw [fb_ct_succ, decide_eq_true ((sc_rd17 K hk hm).mp y)]; rfl
      · rw [fb_ct_succ, decide_eq_false (fun q => y ((sc_rd17 K hk hm).mpr q)), nI_1]; rfl
    · rintro rec x rfl
      refine br_t (nI_le (a := 9) (Nat.le_refl _) (by omega)) ?_
      refine ⟨?_, ?_, ?_, ?_, fun _ => ?_, ?_, ?_, ?_, fun y => absurd y (out (by omega) z)⟩
      case refine_5 =>
        unfold f_X11_usedColours
        refine lf_2_1 (mx (fun k => cv (c k)) m) (by omega) (fun k x => x = nI (fb_ct (fun q => !decide (cnq m c q = 0)) k)) (k0 := 0) (by omega) rfl ?_ ?_
        · rintro rec k x hk rfl hrec
          refine sm_greatestUsed M hm h9 ?_
          refine br_f (fun y => by have := (enc_lt hg (by omega)).mp y; omega) ?_
          refine sm_allLines M hm ?_
          refine sm_manyWith M W ?_
          rw [many_all hm]
          have := hcq k
          dsimp only [kk_j1]
          refine ⟨fun y => hrec _ ?_, fun y => hrec _ ?_⟩
          · have y : cnq m c k = 0 := by
              by_cases q : 0 < cnq m c k
              · exact absurd y (nI_ge (b := cnq m c k) (a := 0) q (by omega))
              · omega
            rw [fb_ct_succ, decide_eq_true y]; rfl
          · have y : ¬ cnq m c k = 0 := fun q => y (by rw [q]; exact Int32.le_refl _)
            rw [fb_ct_succ, decide_eq_false y, nI_1]; rfl
        · rintro rec x rfl
          refine sm_greatestUsed M hm h9 ?_
          refine br_t ((enc_lt hg (by omega)).mpr (Nat.le_refl _)) ⟨?_, same⟩
          rw [ct_tail hg (fun q h1 h2 => by rw [decide_eq_true (hno q h2 h1)]; rfl)]
      all_goals exact fun y => absurd y (bad (by omega) (by omega) (by decide) z)
  · unfold f_X3_unevenness
    refine lf_3_2 9 (by omega) (fun k x y => x = nI (mx (cnq m c) k) ∧ y = nI (mnq (cnq m c) 20 k)) (k0 := 0) (by omega) ⟨rfl, rfl⟩ ?_ ?_
    · rintro rec k x y hk ⟨rfl, rfl⟩ hrec
      have l0 := hcq k
      have l1 : mx (cnq m c) k ≤ m := mx_le (fun q _ => hcq q)
      have l2 : mnq (cnq m c) 20 k ≤ 20 := mnq_le k
      refine br_f (nI_ge (b := 9) hk (by omega)) ⟨vp_lt (by omega) (by omega), ?_⟩
      dsimp only [kk_j2]
      refine ⟨fun y => hrec _ _ ?_, fun y => ⟨vp_lt (by omega) (by omega), ?_⟩⟩
      · have y := (sc_rd17 K hk hm).mp y
        rw [mx, mnq, y, if_neg (by omega), if_pos rfl]
        exact ⟨rfl, rfl⟩
      · have y := fun q => y ((sc_rd17 K hk hm).mpr q)
        rw [rd_nI (by omega), K.2 k hk]
        refine sp_bitCountM (by omega) ⟨vp_lt (by omega) (by omega), ?_⟩
        refine sp_bitCountM (by omega) ?_
        refine hrec _ _ ?_
        show kk_max (nI (mx (cnq m c) k)) (nI (cnq m c k)) = _ ∧ kk_min (nI (mnq (cnq m c) 20 k)) (nI (cnq m c k)) = _
        rw [kk_max_nI (by omega) (by omega), kk_min_nI (by omega) (by omega), mx, mnq, if_neg y]
        exact ⟨rfl, rfl⟩
    · rintro rec x y ⟨rfl, rfl⟩
      have l1 : mx (cnq m c) 9 ≤ m := mx_le (fun q _ => hcq q)
      have l2 : mnq (cnq m c) 20 9 ≤ 20 := mnq_le 9
      refine br_t (nI_le (a := 9) (Nat.le_refl _) (by omega)) ?_
      refine ⟨?_, ?_, ?_, ?_, ?_, fun _ => ?_, ?_, ?_, fun y => absurd y (out (by omega) z)⟩
      case refine_6 =>
        unfold f_X11_uneven
        refine lf_3_2 (mx (fun k => cv (c k)) m) (by omega) (fun k x y => x = nI (mx (cnq m c) k) ∧ y = nI (mnq (cnq m c) 21 k)) (k0 := 0) (by omega) ⟨rfl, rfl⟩ ?_ ?_
        · rintro rec k x y hk ⟨rfl, rfl⟩ hrec
          have l0 := hcq k
          have l1 : mx (cnq m c) k ≤ m := mx_le (fun q _ => hcq q)
          have l2 : mnq (cnq m c) 21 k ≤ 21 := mnq_le k
          refine sm_greatestUsed M hm h9 ?_
          refine br_f (fun y => by have := (enc_lt hg (by omega)).mp y; omega) ?_
          refine sm_allLines M hm ?_
          refine sm_manyWith M W ?_
          rw [many_all hm]
          dsimp only [kk_j2, kk_j1]
          refine ⟨fun y => ?_, fun y => hrec _ _ ?_⟩
          · have y : ¬ cnq m c k = 0 := fun q => y (by rw [q]; rfl)
            have fin : ∀ x y : Int32, x = nI (mx (cnq m c) (k + 1)) → y = nI (mnq (cnq m c) 21 (k + 1)) → rec x y (nI k + 1) := fun x y ex ey => hrec _ _ ⟨ex, ey⟩
            have low : ∀ x : Int32, x = nI (mx (cnq m c) (k + 1)) → (nI (mnq (cnq m c) 21 k) ≤ nI (cnq m c k) → rec x (nI (mnq (cnq m c) 21 k)) (nI k + 1)) ∧ (¬ nI (mnq (cnq m c) 21 k) ≤ nI (cnq m c k) → rec x (nI (cnq m c k)) (nI k + 1)) := by
              intro x ex
              refine ⟨fun u => fin _ _ ex ?_, fun u => fin _ _ ex ?_⟩
              · rw [mnq, if_neg y, if_neg (fun q => nI_ge q (by omega) u)]
              · rw [mnq, if_neg y, if_pos (Nat.not_le.mp (fun q => u (nI_le q (by omega))))]
            refine ⟨fun u => low _ ?_, fun u => low _ ?_⟩
            · rw [mx, if_neg (fun q => nI_ge q (by omega) u)]
            · rw [mx, if_pos (Nat.not_le.mp (fun q => u (nI_le q (by omega))))]
          · have y : cnq m c k = 0 := (nI_ne (j := 0) (by omega) (by omega)).mp y
            rw [mx, mnq, y, if_neg (by omega), if_pos rfl]
            exact ⟨rfl, rfl⟩
        · rintro rec x y ⟨rfl, rfl⟩
          refine sm_greatestUsed M hm h9 ?_
          refine br_t ((enc_lt hg (by omega)).mpr (Nat.le_refl _)) ?_
          have t1 := mx_tail (f := cnq m c) hg (fun q h1 h2 => hno q h2 h1)
          have t2 := mnq_tail (f := cnq m c) (B := 21) hg (fun q h1 h2 => hno q h2 h1)
          rw [← t1, ← t2]
          have l3 : mnq (cnq m c) 21 9 ≤ 21 := mnq_le 9
          dsimp only [kk_j1]
          rcases mnq_same (f := cnq m c) (fun q => by have := hcq q; omega) 9 with ⟨q1, q2, q3⟩ | ⟨q1, q2, q3⟩
          · refine jn_f (by rw [q1]; rfl) ⟨?_, same⟩
            rw [q1, q2]; decide
          · refine jn_t (fun y => by have := (nI_ne (j := 0) (by omega) (by omega)).mp y; omega) ⟨?_, same⟩
            rw [q2, z_sub q3, show (0 : Int32) = nI 0 from rfl, kk_max_nI (by omega) (by omega)]
            congr 1
            split <;> omega
      all_goals exact fun y => absurd y (bad (by omega) (by omega) (by decide) z)
  · refine kj1_t ?_
    refine ⟨?_, ?_, ?_, ?_, ?_, ?_, fun _ => ?_, ?_, fun y => absurd y (out (by omega) z)⟩
    case refine_7 =>
      refine kj1_t ⟨?_, same⟩
      rw [Z.1.1, Z.1.2.1]
    all_goals exact fun y => absurd y (bad (by omega) (by omega) (by decide) z)
  · unfold f_X10_countEasy
    intro x ex
    rw [N.2.2.1] at ex
    refine lf_2_1 m (by omega) (fun k x => x = nI (fb_ct (fun l => decide (c l = -1) && anyb (fun q => !usd m a b c (a l) (nI q) && !usd m a b c (b l) (nI q)) (Dg n m a b)) k)) (k0 := 0) (by omega) rfl ?_ ?_
    · rintro rec k y hk rfl hrec
      refine br_f (by rw [N.2.1]; exact nI_ge hk (by omega)) ⟨vp_lt (by omega) (by omega), ?_⟩
      rw [rd_nI (by omega), K.1 k (by omega), if_pos hk]
      dsimp only [kk_j1]
      refine ⟨fun y => hrec _ ?_, fun y => ?_⟩
      · rw [fb_ct_succ, decide_eq_false y]; rfl
      · refine sc_freeAtBoth N K W hk ?_
        rw [ex, easy_eq hD, mk_eq0 (by omega), ← anyb_no]
        refine ⟨fun u => hrec _ ?_, fun u => hrec _ ?_⟩
        · rw [fb_ct_succ, u, Bool.and_false]; rfl
        · rw [fb_ct_succ, decide_eq_true y, eq_true_of_ne_false u, nI_1]; rfl
    · rintro rec y rfl
      refine br_t (by rw [N.2.1]; exact nI_le (Nat.le_refl _) (by omega)) ?_
      refine ⟨?_, ?_, ?_, ?_, ?_, ?_, ?_, fun _ => ?_, fun y => absurd y (out (by omega) z)⟩
      case refine_8 =>
        unfold f_X11_easyMany
        refine lf_2_1 m (by omega) (fun k x => x = nI (fb_ct (fun l => decide (c l = -1) && anyb (fun q => !usd m a b c (a l) (nI q) && !usd m a b c (b l) (nI q)) (Dg n m a b)) k)) (k0 := 0) (by omega) rfl ?_ ?_
        · rintro rec k y hk rfl hrec
          refine br_f (by rw [M.2.1]; exact nI_ge hk (by omega)) ⟨vp_lt (by omega) (by omega), ?_⟩
          rw [rd_nI (by omega), M.2.2.2.2 k hk]
          dsimp only [kk_j1]
          have ni := neg_iff W P hk
          refine ⟨fun y => hrec _ ?_, fun y => ?_⟩
          · rw [fb_ct_succ, decide_eq_false (ni.mp y)]; rfl
          · have y : c k = -1 := Decidable.byContradiction (fun q => y (ni.mpr q))
            refine sm_degree M W ?_
            refine sm_free M W P hk ?_
            rw [Int32.and_comm, easy_eq hD, mk_eq0 (by omega), ← anyb_no]
            refine ⟨fun u => hrec _ ?_, fun u => hrec _ ?_⟩
            · rw [fb_ct_succ, u, Bool.and_false]; rfl
            · rw [fb_ct_succ, decide_eq_true y, eq_true_of_ne_false u, nI_1]; rfl
        · rintro rec y rfl
          exact br_t (by rw [M.2.1]; exact nI_le (Nat.le_refl _) (by omega)) ⟨rfl, same⟩
      all_goals exact fun y => absurd y (bad (by omega) (by omega) (by decide) z)
  · refine ⟨?_, ?_, ?_, ?_, ?_, ?_, ?_, ?_, fun _ => ⟨rfl, same⟩⟩
    all_goals exact fun y => absurd z (out (by omega) y)
