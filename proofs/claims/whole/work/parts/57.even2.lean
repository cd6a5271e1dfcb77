/-! pair: even, the turns -/
section
variable {n m : Nat} {a b : Nat → Nat} {c : Nat → Int32} {σ : kk_St}
def sqS (m : Nat) (c : Nat → Int32) : Nat := sumN (fun q => cnq m c q * cnq m c q) 9
theorem sumN_one {f g : Nat → Nat} {o : Nat} : ∀ {n : Nat}, o < n → (∀ q, q < n → q ≠ o → f q = g q) → sumN f n + g o = sumN g n + f o
  | 0, h, _ => absurd h (Nat.not_lt_zero _)
  | n + 1, h, e => by
    rw [sumN, sumN]
    by_cases ho : o = n
    · subst ho
      rw [sumN_cong (f := f) (g := g) (fun k hk => e k (by omega) (by omega))]
      omega
    · have := sumN_one (f := f) (g := g) (o := o) (n := n) (by omega) (fun q hq hne => e q (by omega) hne)
      have := e n (by omega) (Ne.symm ho)
      omega
theorem sq_step {x y : Nat} (h : y + 2 ≤ x) : (x - 1) * (x - 1) + (y + 1) * (y + 1) + 2 ≤ x * x + y * y := by
  obtain ⟨u, rfl⟩ : ∃ u, x = u + 1 := ⟨x - 1, by omega⟩
  rw [Nat.add_sub_cancel]
  have e1 : (u + 1) * (u + 1) = u * u + 2 * u + 1 := by rw [Nat.add_mul, Nat.mul_add]; omega
  have e2 : (y + 1) * (y + 1) = y * y + 2 * y + 1 := by rw [Nat.add_mul, Nat.mul_add]; omega
  omega
theorem cnq_sum : ∀ m, sumN (fun q => cnq m c q) 9 ≤ m
  | 0 => Nat.le_of_eq rfl
  | m + 1 => by
    have ih := cnq_sum m
    have key : ∀ t, t ≤ 9 → sumN (fun q => cnq (m + 1) c q) t ≤ sumN (fun q => cnq m c q) t + (if ∃ q, q < t ∧ c m = nI q then 1 else 0) := by
      intro t
      induction t with
      | zero => intro _; simp [sumN]
      | succ t iht =>
        intro ht
        have iht := iht (by omega)
        rw [sumN, sumN]
        have e : cnq (m + 1) c t = cnq m c t + (if decide (c m = nI t) then 1 else 0) := fb_ct_succ _ _
        rw [e]
        by_cases h1 : c m = nI t
        · rw [if_pos (show decide (c m = nI t) = true from decide_eq_true h1), if_pos (show ∃ q, q < t + 1 ∧ c m = nI q from ⟨t, by omega, h1⟩)]
          rw [if_neg] at iht
          · omega
          · rintro ⟨q, hq, hq2⟩
            have := (nI_ne (by omega) (by omega)).mp (h1.symm.trans hq2)
            omega
        · rw [if_neg (show ¬ decide (c m = nI t) = true by rw [decide_eq_false h1]; decide)]
          by_cases h2 : ∃ q, q < t ∧ c m = nI q
          · rw [if_pos h2] at iht
            obtain ⟨q, hq, hq2⟩ := h2
            rw [if_pos (show ∃ q, q < t + 1 ∧ c m = nI q from ⟨q, by omega, hq2⟩)]
            omega
          · rw [if_neg h2] at iht
            omega
    have := key 9 (Nat.le_refl _)
    split at this <;> omega
theorem sqS_le (hm : m ≤ 20) : sqS m c ≤ 400 := by
  have h1 : ∀ t, sumN (fun q => cnq m c q * cnq m c q) t ≤ 20 * sumN (fun q => cnq m c q) t := by
    intro t
    induction t with
    | zero => exact Nat.le_refl _
    | succ t ih =>
      rw [sumN, sumN, Nat.mul_add]
      have h2 : cnq m c t ≤ 20 := Nat.le_trans cnq_le hm
      have h3 : cnq m c t * cnq m c t ≤ 20 * cnq m c t := Nat.mul_le_mul_right _ h2
      omega
  have := h1 9
  have := cnq_sum (c := c) m
  unfold sqS
  omega
/-- one turn: a colour loses a line, the other gains one -/
theorem even_step (W : Wf n m a b) (P : Pr n m a b c) {o w L : Nat} (ho : o < 9) (hw : w < 9) (how : o ≠ w) (hL : L < m) (h1 : led m a b c o w L = true) :
    cnq m (flp c (ch m a b (plw c o w) L) o w) o + 1 = cnq m c o ∧ cnq m (flp c (ch m a b (plw c o w) L) o w) w = cnq m c w + 1 ∧ ∀ q, q < 9 → q ≠ o → q ≠ w → cnq m (flp c (ch m a b (plw c o w) L) o w) q = cnq m c q := by
  have hp : plw c o w L = true := by unfold led at h1; rw [Bool.and_eq_true] at h1; exact h1.1
  have hle := chain_lean W P ho hw how hL hp
  unfold led at h1
  rw [hp, Bool.true_and, decide_eq_true_eq] at h1
  have pool : ∀ k, ch m a b (plw c o w) L k = true → c k = nI o ∨ c k = nI w := fun k hk => pool_or (rch_pool hk)
  generalize ch m a b (plw c o w) L = C at *
  have hne : ∀ {x y : Nat}, x < 9 → y < 9 → x ≠ y → ¬ nI x = nI y := fun hx hy h z => h ((nI_ne (by omega) (by omega)).mp z)
  have spl : ∀ x : Nat, cnq m c x = fb_ct (fun k => C k && decide (c k = nI x)) m + fb_ct (fun k => !C k && decide (c k = nI x)) m := by
    intro x
    unfold cnq
    rw [← fb_ct_or]
    · exact fb_ct_cong (fun k _ => by cases C k <;> simp)
    · rintro k _ ⟨g1, g2⟩
      rw [Bool.and_eq_true] at g1 g2
      rw [g1.1] at g2
      exact absurd g2.1 (by decide)
  have fo : cnq m (flp c C o w) o = fb_ct (fun k => C k && decide (c k = nI w)) m + fb_ct (fun k => !C k && decide (c k = nI o)) m := by
    unfold cnq
    rw [← fb_ct_or]
    · refine fb_ct_cong (fun k _ => ?_)
      unfold flp
      cases hC : C k with
      | false => simp
      | true =>
        rcases pool k hC with y | y
        · simp [y, hne hw ho (Ne.symm how), hne ho hw how]
        · simp [y, hne hw ho (Ne.symm how)]
    · rintro k _ ⟨g1, g2⟩
      rw [Bool.and_eq_true] at g1 g2
      rw [g1.1] at g2
      exact absurd g2.1 (by decide)
  have fw : cnq m (flp c C o w) w = fb_ct (fun k => C k && decide (c k = nI o)) m + fb_ct (fun k => !C k && decide (c k = nI w)) m := by
    unfold cnq
    rw [← fb_ct_or]
    · refine fb_ct_cong (fun k _ => ?_)
      unfold flp
      cases hC : C k with
      | false => simp
      | true =>
        rcases pool k hC with y | y
        · simp [y]
        · simp [y, hne hw ho (Ne.symm how), hne ho hw how]
    · rintro k _ ⟨g1, g2⟩
      rw [Bool.and_eq_true] at g1 g2
      rw [g1.1] at g2
      exact absurd g2.1 (by decide)
  have so := spl o
  have sw := spl w
  refine ⟨by omega, by omega, fun q hq h2 h3 => ?_⟩
  unfold cnq
  refine fb_ct_cong (fun k _ => ?_)
  unfold flp
  cases hC : C k with
  | false => simp
  | true =>
    rcases pool k hC with y | y
    · simp [y, hne ho hq (Ne.symm h2), hne hw hq (Ne.symm h3)]
    · simp [y, hne ho hq (Ne.symm h2), hne hw hq (Ne.symm h3), hne hw ho (Ne.symm how)]
theorem sq_fall (W : Wf n m a b) (P : Pr n m a b c) {o w L : Nat} (ho : o < 9) (hw : w < 9) (how : o ≠ w) (hL : L < m) (h1 : led m a b c o w L = true) (h2 : cnq m c w + 2 ≤ cnq m c o) : sqS m (flp c (ch m a b (plw c o w) L) o w) + 2 ≤ sqS m c := by
  obtain ⟨e1, e2, e3⟩ := even_step W P ho hw how hL h1
  generalize flp c (ch m a b (plw c o w) L) o w = c' at *
  have s1 := sumN_one (f := fun q => cnq m c' q * cnq m c' q) (g := fun q => if q = o then cnq m c o * cnq m c o else cnq m c' q * cnq m c' q) (o := o) (n := 9) ho (fun q _ hq => by rw [if_neg hq])
  have s2 := sumN_one (f := fun q => if q = o then cnq m c o * cnq m c o else cnq m c' q * cnq m c' q) (g := fun q => cnq m c q * cnq m c q) (o := w) (n := 9) hw (fun q hq hne => by
    by_cases y : q = o
    · rw [if_pos y, y]
    · rw [if_neg y, e3 q hq y hne])
  simp only [if_true, if_neg (Ne.symm how)] at s1 s2
  have s3 := sq_step h2
  have e1' : cnq m c' o = cnq m c o - 1 := by omega
  rw [e1'] at s1
  rw [e2] at s2
  unfold sqS
  omega
end
section
variable {n m : Nat} {a b : Nat → Nat} {c : Nat → Int32} {σ : kk_St}
/-- what is chosen, where the colours are not even -/
theorem evs_ok (W : Wf n m a b) (P : Pr n m a b c) (h : stp m c = false) : hiQ m c < 9 ∧ loQ m c < 9 ∧ hiQ m c ≠ loQ m c ∧ cnq m c (loQ m c) + 2 ≤ cnq m c (hiQ m c) ∧ (∃ L, L < m ∧ led m a b c (hiQ m c) (loQ m c) L = true ∧ (∀ j, j < L → led m a b c (hiQ m c) (loQ m c) j = false) ∧ fa_first (led m a b c (hiQ m c) (loQ m c)) m = L) := by
  have hD := Dg_le8 W
  obtain ⟨h1, h2⟩ := hl_le P hD
  have h3 : cnq m c (loQ m c) + 2 ≤ cnq m c (hiQ m c) := by
    unfold stp at h
    simpa using h
  refine ⟨by omega, by omega, fun z => by rw [z] at h3; omega, h3, ?_⟩
  obtain ⟨k, hk, h4⟩ := led_ex (m := m) (a := a) (b := b) (c := c) (o := hiQ m c) (w := loQ m c) (by omega)
  rcases fst_ex (led m a b c (hiQ m c) (loQ m c)) m with ⟨t, ht, t1, t0⟩ | h0
  · exact ⟨t, ht, t1, t0, first_at ht t1 t0⟩
  · rw [h0 k hk] at h4; cases h4
theorem evs_Pr (W : Wf n m a b) (P : Pr n m a b c) (h : stp m c = false) : Pr n m a b (evs m a b c) ∧ sqS m (evs m a b c) + 2 ≤ sqS m c := by
  have hD := Dg_le8 W
  obtain ⟨h1, h2⟩ := hl_le P hD
  obtain ⟨g1, g2, g3, g4, L, hL, l1, l0, le⟩ := evs_ok W P h
  unfold evs
  rw [le]
  exact ⟨chain_flp P h1 h2 g3 hD, sq_fall W P g1 g2 g3 hL l1 g4⟩
theorem evc_ok (W : Wf n m a b) (P : Pr n m a b c) : ∀ i, (∀ j, j < i → stp m (evc m a b c j) = false) → Pr n m a b (evc m a b c i) ∧ sqS m (evc m a b c i) + 2 * i ≤ 400
  | 0, _ => ⟨P, sqS_le W.2.2.1⟩
  | i + 1, h => by
    obtain ⟨h1, h2⟩ := evc_ok W P i (fun j hj => h j (by omega))
    obtain ⟨h3, h4⟩ := evs_Pr W h1 (h i (by omega))
    refine ⟨h3, ?_⟩
    show sqS m (evs m a b (evc m a b c i)) + 2 * (i + 1) ≤ 400
    omega
theorem scn_s (k : Nat) : scn m c (k + 1) = (if cnq m c (scn m c k).1 < cnq m c k then k else (scn m c k).1, if cnq m c k < cnq m c (scn m c k).2 then k else (scn m c k).2) := rfl
theorem scn_1 : scn m c 1 = (0, 0) := by rw [scn_s]; simp [scn]
/-- the reference: one turn, or none -/
theorem sm_evens (M : RM n m a b c σ) (W : Wf n m a b) (P : Pr n m a b c) {Q : Int32 → kk_St → Prop} (h1 : stp m c = true → Q 0 σ) (h0 : stp m c = false → ∀ τ, RM n m a b (evs m a b c) τ → frF [3] [9] σ τ → Q 1 τ) : f_X11_evens σ Q := by
  have hm := W.2.2.1
  have hD := Dg_le8 W
  have h9 := Pr9 W P
  obtain ⟨s1, s2, s3, s4⟩ := sM_9 P hD
  have hg : gU m c ≤ 9 := by have := gU_le P hD; omega
  have hcq := fun q => cnq_le (m := m) (c := c) (q := q)
  have ld : ∀ {q : Nat} {Q : Int32 → Prop}, Q (nI (cnq m c q)) → f_X11_allLines σ (fun r => f_X11_manyWith r (nI q) σ Q) := by
    intro q Q h
    refine sm_allLines M hm ?_
    refine sm_manyWith M W ?_
    rw [many_all hm]; exact h
  unfold f_X11_evens
  refine lf_3_2 (sM m c) (by omega) (fun k x y => 1 ≤ k ∧ x = nI (scn m c k).1 ∧ y = nI (scn m c k).2) (k0 := 1) s1 ⟨Nat.le_refl _, by rw [scn_1]; rfl, by rw [scn_1]; rfl⟩ ?_ ?_
  · rintro rec k x y hk ⟨hk1, rfl, rfl⟩ hrec
    refine sm_greatestUsed M hm h9 ?_
    refine br_f (fun y => by have := (enc_lt (g := gU m c) hg (by omega)).mp y; have := s4 k hk1 hk; omega) ?_
    refine ld (ld ?_)
    dsimp only [kk_j1]
    have b1 := hcq k
    have b2 := hcq (scn m c k).1
    have b3 := hcq (scn m c k).2
    have low : ∀ x : Int32, x = nI (scn m c (k + 1)).1 → f_X11_allLines σ (fun r => f_X11_manyWith r (nI k) σ (fun r_21 => f_X11_allLines σ (fun r => f_X11_manyWith r (nI (scn m c k).2) σ (fun r_23 => (r_23 ≤ r_21 → rec x (nI (scn m c k).2) (nI k + 1)) ∧ (¬ r_23 ≤ r_21 → rec x (nI k) (nI k + 1)))))) := by
      intro x ex
      refine ld (ld ?_)
      refine ⟨fun u => hrec _ _ ⟨by omega, ex, ?_⟩, fun u => hrec _ _ ⟨by omega, ex, ?_⟩⟩
      · rw [scn_s]; dsimp only; rw [if_neg (fun q => nI_ge q (by omega) u)]
      · rw [scn_s]; dsimp only; rw [if_pos (Nat.not_le.mp (fun q => u (nI_le q (by omega))))]
    refine ⟨fun u => low _ ?_, fun u => low _ ?_⟩
    · rw [scn_s]; dsimp only; rw [if_neg (fun q => nI_ge q (by omega) u)]
    · rw [scn_s]; dsimp only; rw [if_pos (Nat.not_le.mp (fun q => u (nI_le q (by omega))))]
  · rintro rec x y ⟨_, rfl, rfl⟩
    refine sm_greatestUsed M hm h9 ?_
    refine br_t ((enc_lt (g := gU m c) hg (by omega)).mpr s3) ?_
    refine ld (ld ?_)
    have b2 := hcq (hiQ m c)
    have b3 := hcq (loQ m c)
    show (nI (cnq m c (loQ m c)) + 2 ≤ nI (cnq m c (hiQ m c)) → f_X11_longerChain (nI (hiQ m c)) (nI (loQ m c)) σ (fun r_10 σ_11 => f_X11_flips 3 20 r_10 (nI (hiQ m c)) (nI (loQ m c)) σ_11 (fun σ_12 => Q 1 σ_12))) ∧ (¬ nI (cnq m c (loQ m c)) + 2 ≤ nI (cnq m c (hiQ m c)) → Q 0 σ)
    rw [show (2 : Int32) = nI 2 from rfl, nI_add]
    refine ⟨fun u => ?_, fun u => h1 ?_⟩
    · have hs : stp m c = false := by
        unfold stp
        rw [Bool.not_eq_false', decide_eq_true_eq]
        exact Nat.not_lt.mp (fun q => nI_ge q (by omega) u)
      obtain ⟨g1, g2, g3, g4, L, hL, l1, l0, le⟩ := evs_ok W P hs
      refine sm_longerChain M W g1 g2 hL l1 l0 (fun τ F => ?_)
      have M2 := RM_fr M F (by simp) (by simp)
      refine sm_flips hm (by omega) (by omega) M2.2.2.2.2 (fun k _ hk => pool_or (rch_pool hk)) (fun τ' f1 f2 F3 => ?_)
      have FF : frF [3] [9] σ τ' := frF_tr (frF_mono F (by simp) (by simp)) (frF_L F3 (by simp))
      refine h0 hs τ' (RM_col M FF (by simp) (by simp) (fun k hk => ?_)) FF
      rw [f1 k hk]
      unfold evs
      rw [le]
      rfl
    · unfold stp
      rw [Bool.not_eq_true', decide_eq_false_iff_not]
      exact fun q => u (nI_le q (by omega))
end
theorem q_even : pr_even Rel := by
  rintro σ1 σ2 ⟨n, m, a, b, c, kp, ls, kf, gf, W, P, M, N, K, Z⟩ _
  have hm := W.2.2.1
  have hD := Dg_le8 W
  unfold f_X10_even f_X2_makeEven
  refine kk_lpI2 (fun x τ => ∃ i, x = nI i ∧ (∀ j, j < i → stp m (evc m a b c j) = false) ∧ RK m (evc m a b c i) τ ∧ frL [16, 17] σ1 τ) (fun x _ => 1000 - x.toNatClampNeg) ?_ ⟨0, rfl, fun j hj => absurd hj (Nat.not_lt_zero _), K, frL_rf⟩
  rintro rec x τ ⟨i, rfl, hst, K', F⟩ hrec
  obtain ⟨P', hsq⟩ := evc_ok W P i hst
  have N' := RN_fr N F (by simp)
  refine br_f (nI_ge (b := 1000) (a := i) (by omega) (by omega)) ?_
  have h9 := Pr9 W P'
  have hcq := fun q => cnq_le (m := m) (c := evc m a b c i) (q := q)
  obtain ⟨s1, s2, s3, s4⟩ := sM_9 P' hD
  have hg : gU m (evc m a b c i) ≤ 9 := by have := gU_le P' hD; omega
  have hlt := hl_le P' hD
  refine lf_3_2 (sM m (evc m a b c i)) (by omega) (fun k x y => 1 ≤ k ∧ x = nI (scn m (evc m a b c i) k).1 ∧ y = nI (scn m (evc m a b c i) k).2) (k0 := 1) s1 ⟨Nat.le_refl _, by rw [scn_1]; rfl, by rw [scn_1]; rfl⟩ ?_ ?_
  · rintro rec2 k x y hk ⟨hk1, rfl, rfl⟩ hrec2
    obtain ⟨w1, w2, _, _⟩ := scn_lt (m := m) (c := evc m a b c i) k
    refine sc_greatestUsed K' hm h9 ?_
    refine br_f (fun y => by have := (enc_lt hg (by omega)).mp y; have := s4 k hk1 hk; omega) ?_
    have b1 := hcq k
    have b2 := hcq (scn m (evc m a b c i) k).1
    have b3 := hcq (scn m (evc m a b c i) k).2
    refine sc_howMany K' hm (by omega) (sc_howMany K' hm (by omega) ?_)
    dsimp only [kk_j1]
    have low : ∀ x : Int32, x = nI (scn m (evc m a b c i) (k + 1)).1 → f_X2_howMany (nI k) τ (fun r_18 => f_X2_howMany (nI (scn m (evc m a b c i) k).2) τ (fun r_19 => (r_19 ≤ r_18 → rec2 x (nI (scn m (evc m a b c i) k).2) (nI k + 1)) ∧ (¬ r_19 ≤ r_18 → rec2 x (nI k) (nI k + 1)))) := by
      intro x ex
      refine sc_howMany K' hm (by omega) (sc_howMany K' hm (by omega) ?_)
      refine ⟨fun u => hrec2 _ _ ⟨by omega, ex, ?_⟩, fun u => hrec2 _ _ ⟨by omega, ex, ?_⟩⟩
      · rw [scn_s]; dsimp only; rw [if_neg (fun q => nI_ge q (by omega) u)]
      · rw [scn_s]; dsimp only; rw [if_pos (Nat.not_le.mp (fun q => u (nI_le q (by omega))))]
    refine ⟨fun u => low _ ?_, fun u => low _ ?_⟩
    · rw [scn_s]; dsimp only; rw [if_neg (fun q => nI_ge q (by omega) u)]
    · rw [scn_s]; dsimp only; rw [if_pos (Nat.not_le.mp (fun q => u (nI_le q (by omega))))]
  · rintro rec2 x y ⟨_, rfl, rfl⟩
    refine sc_greatestUsed K' hm h9 ?_
    refine br_t ((enc_lt hg (by omega)).mpr s3) ?_
    have b2 := hcq (hiQ m (evc m a b c i))
    have b3 := hcq (loQ m (evc m a b c i))
    refine sc_howMany K' hm (show hiQ m (evc m a b c i) < 9 by omega) (sc_howMany K' hm (show loQ m (evc m a b c i) < 9 by omega) ?_)
    rw [show (2 : Int32) = nI 2 from rfl, nI_add]
    refine ⟨fun u => ?_, fun u => ?_⟩
    · have hs : stp m (evc m a b c i) = false := by
        unfold stp
        rw [Bool.not_eq_false', decide_eq_true_eq]
        exact Nat.not_lt.mp (fun q => nI_ge q (by omega) u)
      obtain ⟨g1, g2, g3, g4, L, hL, l1, l0, le⟩ := evs_ok W P' hs
      refine sc_leaningChain N' K' hm g1 g2 hL l1 l0 ?_
      refine sc_flip N' K' hm g1 g2 g3 (fun k _ hk => pool_or (rch_pool hk)) (fun τ' K2 F2 => ?_)
      rw [nI_1]
      refine hrec _ _ ⟨i + 1, rfl, fun j hj => ?_, ?_, frL_tr F F2⟩ (by rw [nI_clamp (by omega), nI_clamp (by omega)]; omega)
      · by_cases y : j = i
        · rw [y]; exact hs
        · exact hst j (by omega)
      · show RK m (evs m a b (evc m a b c i)) τ'
        unfold evs
        rw [le]; exact K2
    · have hs : stp m (evc m a b c i) = true := by
        unfold stp
        rw [Bool.not_eq_true', decide_eq_false_iff_not]
        exact fun q => u (nI_le q (by omega))
      unfold f_X11_even
      refine kk_lpI2 (fun x ρ => ∃ j, j ≤ i ∧ x = nI j ∧ RM n m a b (evc m a b c j) ρ ∧ frF [3] [9] σ2 ρ) (fun x _ => i - x.toNatClampNeg) ?_ ⟨0, Nat.zero_le _, rfl, M, frF_rf⟩
      rintro rec3 x ρ ⟨j, hj, rfl, M2, F2⟩ hrec3
      obtain ⟨P2, _⟩ := evc_ok W P j (fun j' h => hst j' (by omega))
      refine sm_evens M2 W P2 (fun h => ?_) (fun h ρ' M3 F3 => ?_)
      · refine br_t rfl ?_
        have hji : j = i := by
          by_cases y : j < i
          · rw [hst j y] at h; cases h
          · omega
        subst hji
        exact ⟨rfl, n, m, a, b, _, kp, ls, kf, gf, W, P2, M2, N', K', Rest_fr Z F F2 (by simp) (by simp) (by simp)⟩
      · refine br_f (by decide) ?_
        rw [nI_1]
        have hji : j ≠ i := fun y => by rw [y, hs] at h; cases h
        exact hrec3 _ _ ⟨j + 1, by omega, rfl, M3, frF_tr F2 F3⟩ (by rw [nI_clamp (by omega), nI_clamp (by omega)]; omega)
