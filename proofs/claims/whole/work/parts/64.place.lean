/-! after the turn of a chain at the middle some post of the fan lacks the colour -/
theorem ct_three {n p q r : Nat} {E : Nat → Bool} (hp : p < n) (hq : q < n) (hr : r < n) (h1 : p ≠ q) (h2 : p ≠ r) (h3 : q ≠ r) (e1 : E p = true) (e2 : E q = true) (e3 : E r = true) : 3 ≤ fb_ct E n := by
  have h : fb_ct (fun k => decide (p = k) || (decide (q = k) || decide (r = k))) n = 3 := by
    rw [fb_ct_or (p := fun k => decide (p = k)) (q := fun k => decide (q = k) || decide (r = k)), fb_ct_or (p := fun k => decide (q = k)) (q := fun k => decide (r = k)), ct_one hp, ct_one hq, ct_one hr]
    · rintro k _ ⟨g1, g2⟩
      simp only [decide_eq_true_eq] at g1 g2
      omega
    · rintro k _ ⟨g1, g2⟩
      simp only [Bool.or_eq_true, decide_eq_true_eq] at g1 g2
      omega
  rw [← h]
  refine fb_ct_sub (fun k _ hk => ?_)
  simp only [Bool.or_eq_true, decide_eq_true_eq] at hk
  rcases hk with z | z | z
  · rw [← z]; exact e1
  · rw [← z]; exact e2
  · rw [← z]; exact e3
section
variable {n m : Nat} {a b : Nat → Nat} {c : Nat → Int32} {C : Nat → Bool} {o w : Nat}
/-- colours at a post after the turn of a closed set -/
theorem usd_out (p q : Nat) (h : ∀ k, k < m → C k = true → inc a b k p = false) : usd m a b (flp c C o w) p (nI q) = usd m a b c p (nI q) := by
  refine anyb_cong (fun k hk => ?_)
  cases hi : inc a b k p with
  | false => rfl
  | true =>
    have hC : C k = false := by
      cases hC : C k with
      | false => rfl
      | true => rw [h k hk hC] at hi; cases hi
    unfold flp; rw [hC]; rfl
theorem usd_oth (ho : o < 9) (hw : w < 9) (pool : ∀ k, k < m → C k = true → c k = nI o ∨ c k = nI w) (p : Nat) {v : Int32} (h1 : v ≠ nI o) (h2 : v ≠ nI w) : usd m a b (flp c C o w) p v = usd m a b c p v := by
  refine anyb_cong (fun k hk => ?_)
  cases hC : C k with
  | false => unfold flp; rw [hC]; rfl
  | true =>
    have e1 : decide (c k = v) = false := decide_eq_false (fun z => by
      rcases pool k hk hC with y | y
      · exact h1 (z.symm.trans y)
      · exact h2 (z.symm.trans y))
    have e2 : decide (flp c C o w k = v) = false := decide_eq_false (fun z => by
      unfold flp at z
      rw [hC] at z
      simp only [if_true] at z
      split at z
      · exact h2 z.symm
      · exact h1 z.symm)
    rw [e1, e2]
/-- at a post of the set the two colours change places -/
theorem usd_in (ho : o < 9) (hw : w < 9) (how : o ≠ w) {p : Nat} (pool : ∀ k, k < m → C k = true → c k = nI o ∨ c k = nI w) (hin : ∀ k, k < m → inc a b k p = true → (c k = nI o ∨ c k = nI w) → C k = true) : usd m a b (flp c C o w) p (nI o) = usd m a b c p (nI w) ∧ usd m a b (flp c C o w) p (nI w) = usd m a b c p (nI o) := by
  have hne : ¬ nI o = nI w := fun z => how ((nI_ne (by omega) (by omega)).mp z)
  have hne' : ¬ nI w = nI o := fun z => hne z.symm
  constructor
  · refine anyb_cong (fun k hk => ?_)
    cases hi : inc a b k p with
    | false => rfl
    | true =>
      simp only [Bool.true_and]
      unfold flp
      cases hC : C k with
      | true =>
        rcases pool k hk hC with y | y
        · simp [y, hne, hne']
        · simp [y, hne']
      | false =>
        have h1 : ¬ c k = nI o := fun z => by rw [hin k hk hi (Or.inl z)] at hC; cases hC
        have h2 : ¬ c k = nI w := fun z => by rw [hin k hk hi (Or.inr z)] at hC; cases hC
        simp [h1, h2]
  · refine anyb_cong (fun k hk => ?_)
    cases hi : inc a b k p with
    | false => rfl
    | true =>
      simp only [Bool.true_and]
      unfold flp
      cases hC : C k with
      | true =>
        rcases pool k hk hC with y | y
        · simp [y]
        · simp [y, hne, hne']
      | false =>
        have h1 : ¬ c k = nI o := fun z => by rw [hin k hk hi (Or.inl z)] at hC; cases hC
        have h2 : ¬ c k = nI w := fun z => by rw [hin k hk hi (Or.inr z)] at hC; cases hC
        simp [h1, h2]
end
/-- the fan holds up to place w, and its post there lacks d -/
def Plc (m : Nat) (a b : Nat → Nat) (c c' : Nat → Int32) (x y0 d w : Nat) : Prop := (∀ i, i < w → c' (fln m a b c x y0 i) ≠ -1 ∧ usd m a b c' (fsT m a b c x y0 i).1 (c' (fln m a b c x y0 i)) = false) ∧ usd m a b c' (fsT m a b c x y0 w).1 (nI d) = false
theorem place_ex {n m : Nat} {a b : Nat → Nat} {c : Nat → Int32} {x : Nat} (W : Wf n m a b) (P : Pr n m a b c) {k0 s r d : Nat} (hk0 : k0 < m) (hi0 : inc a b k0 x = true) (hc0 : c k0 = -1) (hr : r < 9) (hd : d < 9) (hs : Fsz m a b c x (far a b x k0) s) (h1 : usd m a b c (fsT m a b c x (far a b x k0) (s - 1)).1 (nI d) = false) (h2 : usd m a b c x (nI d) = true) (h3 : usd m a b c x (nI r) = false) :
    ∃ w, w < s ∧ Plc m a b c (flp c (rch m a b (fun k => decide (c k = nI r) || decide (c k = nI d)) (fun k => inc a b k x)) r d) x (far a b x k0) d w := by
  have hs1 := hs.1
  have hn := W.2.1
  have hw0 := W.2.2.2.1 k0 hk0
  have hx : x < n := by rcases inc_iff.mp hi0 with z | z <;> omega
  obtain ⟨y1, y2, y3⟩ := far_ok W hk0 hi0
  obtain ⟨j, hj, hcj⟩ := fan_has W P hk0 hi0 hc0 hd hs h1 h2
  have hjm := hs.2.1 j hj
  have hjo := fln_ok hjm
  have hrd : r ≠ d := fun z => by rw [z, h2] at h3; cases h3
  have inv := fun i (hi : i < s) => fan_inv (c := c) W hx y1 y2 i (fun j' hj' => hs.2.1 j' (by omega))
  have hpj : plw c r d (fln m a b c x (far a b x k0) j) = true := by unfold plw; simp [hcj]
  have hC : ∀ k, k < m → rch m a b (fun k => decide (c k = nI r) || decide (c k = nI d)) (fun k => inc a b k x) k = ch m a b (plw c r d) (fln m a b c x (far a b x k0) j) k := fun k hk => (rch_post (P := plw c r d) hjm hpj hjo.1 k hk).symm
  generalize hCe : rch m a b (fun k => decide (c k = nI r) || decide (c k = nI d)) (fun k => inc a b k x) = C at *
  have pool : ∀ k, k < m → C k = true → c k = nI r ∨ c k = nI d := fun k hk h => pool_or (rch_pool (by rw [hC k hk] at h; exact h))
  have clo : ∀ p k, k < m → C k = true → inc a b k p = true → ∀ k', k' < m → inc a b k' p = true → (c k' = nI r ∨ c k' = nI d) → C k' = true := by
    intro p k hk hCk hi k' hk' hi' hp'
    by_cases e : k = k'
    · rw [← e]; exact hCk
    · rw [hC k hk] at hCk
      rw [hC k' hk']
      exact rch_step hCk hk' (by unfold plw; rcases hp' with z | z <;> simp [z]) (mts_iff.mpr ⟨e, p, hi, hi'⟩)
  -- the other lines of the fan keep their colours, and those stay free where they were
  have oth : ∀ i, i + 1 < s → i ≠ j → flp c C r d (fln m a b c x (far a b x k0) i) ≠ -1 ∧ usd m a b (flp c C r d) (fsT m a b c x (far a b x k0) i).1 (flp c C r d (fln m a b c x (far a b x k0) i)) = false := by
    intro i hi hij
    have him := hs.2.1 i hi
    have hio := fln_ok him
    have n1 : c (fln m a b c x (far a b x k0) i) ≠ nI r := fun z => by
      have := anyb_no.mp h3 _ him
      rw [hio.1, decide_eq_true z] at this; cases this
    have n2 : c (fln m a b c x (far a b x k0) i) ≠ nI d := fun z => by
      have e := one_line P him hjm hio.1 hjo.1 (z.trans hcj.symm) hio.2.1
      have e2 : (fsT m a b c x (far a b x k0) (i + 1)).1 = (fsT m a b c x (far a b x k0) (j + 1)).1 := by rw [fsT_s, fsT_s, e]
      have := fan_inj hs hi hj e2
      omega
    have hCi : C (fln m a b c x (far a b x k0) i) = false := by
      cases z : C (fln m a b c x (far a b x k0) i) with
      | false => rfl
      | true => rcases pool _ him z with u | u
                · exact absurd u n1
                · exact absurd u n2
    have e : flp c C r d (fln m a b c x (far a b x k0) i) = c (fln m a b c x (far a b x k0) i) := by
      show (if C (fln m a b c x (far a b x k0) i) = true then _ else _) = _
      rw [hCi]; rfl
    rw [e]
    exact ⟨hio.2.1, by rw [usd_oth hr hd pool _ n1 n2]; exact hio.2.2.2⟩
  by_cases hT : ∃ k, k < m ∧ C k = true ∧ inc a b k (fsT m a b c x (far a b x k0) j).1 = true
  · -- then the last post is not in the chain
    obtain ⟨k, hk, hCk, hik⟩ := hT
    have hlast : ∀ k', k' < m → C k' = true → inc a b k' (fsT m a b c x (far a b x k0) (s - 1)).1 = false := by
      intro k' hk' hCk'
      cases hi' : inc a b k' (fsT m a b c x (far a b x k0) (s - 1)).1 with
      | false => rfl
      | true =>
        exfalso
        have t2 := two_ends W P hr hd hrd hjm hpj
        have iv1 := inv j (by omega)
        have iv2 := inv (s - 1) (by omega)
        have d1 : (fsT m a b c x (far a b x k0) j).1 ≠ (fsT m a b c x (far a b x k0) (s - 1)).1 := fun z => by
          have := fan_inj hs (by omega) (by omega) z
          omega
        have t3 := ct_three (E := fun p => anyb (fun k => ch m a b (plw c r d) (fln m a b c x (far a b x k0) j) k && inc a b k p) m && (!usd m a b c p (nI r) || !usd m a b c p (nI d))) hx iv1.2.2.1 iv2.2.2.1 (Ne.symm iv1.2.2.2.1) (Ne.symm iv2.2.2.2.1) d1
          (by
            have z : anyb (fun k => ch m a b (plw c r d) (fln m a b c x (far a b x k0) j) k && inc a b k x) m = true := anyb_iff.mpr ⟨_, hjm, by rw [ch_rf hjm hpj, hjo.1]; rfl⟩
            rw [z, h3]; rfl)
          (by
            have z : anyb (fun k => ch m a b (plw c r d) (fln m a b c x (far a b x k0) j) k && inc a b k (fsT m a b c x (far a b x k0) j).1) m = true := anyb_iff.mpr ⟨k, hk, by rw [← hC k hk, hCk, hik]; rfl⟩
            have u : usd m a b c (fsT m a b c x (far a b x k0) j).1 (nI d) = false := by rw [← hcj]; exact hjo.2.2.2
            rw [z, u]; simp)
          (by
            have z : anyb (fun k => ch m a b (plw c r d) (fln m a b c x (far a b x k0) j) k && inc a b k (fsT m a b c x (far a b x k0) (s - 1)).1) m = true := anyb_iff.mpr ⟨k', hk', by rw [← hC k' hk', hCk', hi']; rfl⟩
            rw [z, h1]; simp)
        omega
    refine ⟨s - 1, by omega, fun i hi => ?_, by rw [usd_out _ _ hlast]; exact h1⟩
    by_cases hij : i = j
    · subst hij
      have hCj : C (fln m a b c x (far a b x k0) i) = true := by rw [hC _ hjm]; exact ch_rf hjm hpj
      have e : flp c C r d (fln m a b c x (far a b x k0) i) = nI r := by
        show (if C (fln m a b c x (far a b x k0) i) = true then (if c (fln m a b c x (far a b x k0) i) = nI r then nI d else nI r) else _) = _
        rw [hCj, if_pos rfl, hcj, if_neg (fun z => hrd ((nI_ne (by omega) (by omega)).mp z.symm))]
      rw [e]
      refine ⟨nI_ne_m1 (by omega), ?_⟩
      rw [(usd_in hr hd hrd pool (clo _ k hk hCk hik)).1, ← hcj]
      exact hjo.2.2.2
    · exact oth i (by omega) hij
  · refine ⟨j, by omega, fun i hi => oth i (by omega) (by omega), ?_⟩
    rw [usd_out]
    · rw [← hcj]; exact hjo.2.2.2
    · intro k hk hCk
      cases hi : inc a b k (fsT m a b c x (far a b x k0) j).1 with
      | false => rfl
      | true => exact absurd ⟨k, hk, hCk, hi⟩ hT
