/-! fans -/
def far (a b : Nat → Nat) (x k : Nat) : Nat := if a k = x then b k else a k
/-- line k may follow in a fan at x whose last post is y and whose posts are U -/
def cnd (m : Nat) (a b : Nat → Nat) (c : Nat → Int32) (x y : Nat) (U : Nat → Bool) (k : Nat) : Bool := inc a b k x && (!decide (c k = -1) && (!U (far a b x k) && !usd m a b c y (c k)))
def fol (m : Nat) (a b : Nat → Nat) (c : Nat → Int32) (x y : Nat) (U : Nat → Bool) : Nat := fa_first (fun k => cnd m a b c x y U k && !anyb (fun j => cnd m a b c x y U j && decide (cv (c j) < cv (c k))) m) m
section
variable {n m : Nat} {a b : Nat → Nat} {c : Nat → Int32} {σ : kk_St} {x y : Nat} {U : Nat → Bool}
theorem cv_inj {u v : Int32} (h1 : u = -1 ∨ ∃ q, q < 9 ∧ u = nI q) (h2 : v = -1 ∨ ∃ q, q < 9 ∧ v = nI q) (h : cv u = cv v) : u = v := by
  rcases h1 with h1 | ⟨q, hq, h1⟩ <;> rcases h2 with h2 | ⟨r, hr, h2⟩
  · rw [h1, h2]
  · rw [h1, h2, cv_nI hr, show cv (-1) = 0 from rfl] at h; omega
  · rw [h1, h2, cv_nI hq, show cv (-1) = 0 from rfl] at h; omega
  · rw [h1, h2, cv_nI hq, cv_nI hr] at h
    rw [h1, h2]; congr 1; omega
theorem cnd_iff {k : Nat} : cnd m a b c x y U k = true ↔ inc a b k x = true ∧ c k ≠ -1 ∧ U (far a b x k) = false ∧ usd m a b c y (c k) = false := by
  unfold cnd
  simp only [Bool.and_eq_true, Bool.not_eq_true', decide_eq_false_iff_not]
theorem fol_none (h : ∀ k, k < m → cnd m a b c x y U k = false) : fol m a b c x y U = m := first_none (fun k hk => by rw [h k hk]; rfl)
theorem fol_is (W : Wf n m a b) (P : Pr n m a b c) {k : Nat} (hk : k < m) (h1 : cnd m a b c x y U k = true) (h2 : ∀ j, j < m → cnd m a b c x y U j = true → cv (c k) ≤ cv (c j)) : fol m a b c x y U = k := by
  have h9 := Pr9 W P
  refine first_at hk ?_ ?_
  · rw [h1, anyb_no.mpr (fun j hj => ?_)]; · rfl
    cases hc : cnd m a b c x y U j with
    | false => rfl
    | true =>
      have := h2 j hj hc
      rw [Bool.true_and]
      exact decide_eq_false (by omega)
  · intro j hj
    cases hc : cnd m a b c x y U j with
    | false => rfl
    | true =>
      rw [Bool.true_and, Bool.not_eq_false']
      refine anyb_iff.mpr ⟨k, hk, ?_⟩
      rw [h1, Bool.true_and, decide_eq_true_eq]
      have hle := h2 j (by omega) hc
      apply Nat.lt_of_le_of_ne hle
      intro he
      have e := cv_inj (h9 k hk) (h9 j (by omega)) he
      have c1 := cnd_iff.mp h1
      have c2 := cnd_iff.mp hc
      have := one_line P hk (show j < m by omega) c1.1 c2.1 e c1.2.1
      omega
theorem fol_lt (h : fol m a b c x y U < m) : cnd m a b c x y U (fol m a b c x y U) = true := by
  have := fa_first_yes _ _ h
  rw [Bool.and_eq_true] at this
  exact this.1
theorem far_ok (W : Wf n m a b) {k : Nat} (hk : k < m) (hi : inc a b k x = true) : far a b x k < n ∧ far a b x k ≠ x ∧ inc a b k (far a b x k) = true := by
  have hw := W.2.2.2.1 k hk
  unfold far
  by_cases h : a k = x
  · rw [if_pos h]
    exact ⟨by omega, by omega, inc_iff.mpr (Or.inr rfl)⟩
  · rw [if_neg h]
    exact ⟨by omega, h, inc_iff.mpr (Or.inl rfl)⟩
theorem sc_follower (N : RN n m a b σ) (K : RK m c σ) (W : Wf n m a b) (P : Pr n m a b c) (hx : x < 9) (hy : y < 9) {Q : Int32 → Prop} (h : Q (if fol m a b c x y U < m then nI (far a b x (fol m a b c x y U)) else -1)) : f_X4_follower (nI x) (nI y) (mk U 9) σ Q := by
  have hm := W.2.2.1
  have hn := W.2.1
  have hD := Dg_le8 W
  have h9 := Pr9 W P
  unfold f_X4_follower
  refine sc_freeAt N K W hy ?_
  refine lf_1_0 9 (by omega) (fun q => ∀ k, k < m → cnd m a b c x y U k = true → q < cv (c k)) (k0 := 0) (by omega) ?_ ?_ ?_
  · intro k hk hc
    have c1 := cnd_iff.mp hc
    rcases h9 k hk with z | ⟨q, hq, z⟩
    · exact absurd z c1.2.1
    · rw [z, cv_nI hq]; omega
  · rintro rec q hq hI hrec
    refine br_f (nI_ge (b := 9) hq (by omega)) ?_
    refine sc_lineWith N K hm hx hq ?_
    dsimp only [kk_j0]
    have next : (∀ k, k < m → cnd m a b c x y U k = true → ¬ c k = nI q) → rec (nI q + 1) := by
      intro hz
      refine hrec (fun k hk hc => ?_)
      have h1 := hI k hk hc
      have h2 := hz k hk hc
      rcases h9 k hk with z | ⟨r, hr, z⟩
      · exact absurd z (cnd_iff.mp hc).2.1
      · rw [z, cv_nI hr] at h1 ⊢
        have : r ≠ q := fun e => h2 (by rw [z, e])
        omega
    have eb : bt (mk (fun q => !usd m a b c y (nI q)) (Dg n m a b + 1)) q = (decide (q < Dg n m a b + 1) && !usd m a b c y (nI q)) := mk_bt _ _ (by omega)
    refine ⟨fun z => next (fun k hk hc he => ?_), fun z => ⟨fun y1 => next (fun k hk hc he => ?_), fun y1 => ?_⟩⟩
    · have z := (z_bit0 _ (by omega)).mp z
      rw [eb] at z
      have c1 := cnd_iff.mp hc
      rw [he] at c1
      have hqD : q < Dg n m a b + 1 := by
        rcases P.1 k hk with u | ⟨r, hr, u⟩
        · rw [he] at u; exact absurd u (nI_ne_m1 (by omega))
        · have := (nI_ne (by omega) (by omega)).mp (he.symm.trans u); omega
      rw [decide_eq_true hqD, c1.2.2.2] at z
      cases z
    · have := (fI_ne (by omega)).mp y1
      have := anyb_no.mp this k hk
      rw [(cnd_iff.mp hc).1, decide_eq_true he] at this
      cases this
    · rcases fst_ex (fun k => inc a b k x && decide (c k = nI q)) m with ⟨k, hk, k1, k0⟩ | k0
      · rw [fI_at hk k1 k0]
        rw [Bool.and_eq_true, decide_eq_true_eq] at k1
        have fo := far_ok W hk k1.1
        refine sc_farEnd N W hk (by omega) ?_
        show (¬ ((mk U 9 >>> (nI (far a b x k) &&& 31)) &&& (1 : Int32)) = 0 → rec (nI q + 1)) ∧ (((mk U 9 >>> (nI (far a b x k) &&& 31)) &&& (1 : Int32)) = 0 → Q (nI (far a b x k)))
        have hz : bt (mk (fun q => !usd m a b c y (nI q)) (Dg n m a b + 1)) q = true := by
          cases u : bt (mk (fun q => !usd m a b c y (nI q)) (Dg n m a b + 1)) q with
          | true => rfl
          | false => exact absurd ((z_bit0 _ (by omega)).mpr u) z
        rw [eb, Bool.and_eq_true, Bool.not_eq_true'] at hz
        have eU : bt (mk U 9) (far a b x k) = U (far a b x k) := by
          rw [mk_bt _ _ (by omega), decide_eq_true (show far a b x k < 9 by omega), Bool.true_and]
        refine ⟨fun u => next (fun j hj hc he => ?_), fun u => ?_⟩
        · have hjk : j = k := one_line P hj hk (cnd_iff.mp hc).1 k1.1 (he.trans k1.2.symm) (cnd_iff.mp hc).2.1
          rw [hjk] at hc
          exact u ((z_bit0 _ (by omega)).mpr (by rw [eU]; exact (cnd_iff.mp hc).2.2.1))
        · have u := (z_bit0 _ (by omega)).mp u
          rw [eU] at u
          have hc : cnd m a b c x y U k = true := cnd_iff.mpr ⟨k1.1, by rw [k1.2]; exact nI_ne_m1 (by omega), u, by rw [k1.2]; exact hz.2⟩
          rw [fol_is W P hk hc (fun j hj hcj => by rw [k1.2, cv_nI hq]; exact hI j hj hcj), if_pos hk] at h
          exact h
      · exact absurd (fI_none k0) y1
  · rintro rec hI
    refine br_t (nI_le (a := 9) (Nat.le_refl _) (by omega)) ?_
    rw [if_neg] at h
    · exact h
    · intro z
      have h1 := hI _ z (fol_lt z)
      rcases h9 _ z with u | ⟨r, hr, u⟩
      · rw [u, show cv (-1) = 0 from rfl] at h1; omega
      · rw [u, cv_nI hr] at h1; omega
end
