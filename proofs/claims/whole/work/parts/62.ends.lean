/-! a chain has at most two ends -/
theorem sumN_add {f g : Nat → Nat} : ∀ n, sumN (fun p => f p + g p) n = sumN f n + sumN g n
  | 0 => rfl
  | n + 1 => by rw [sumN, sumN, sumN, sumN_add n]; omega
theorem sumN_ct {P : Nat → Bool} : ∀ n, sumN (fun p => if P p then 1 else 0) n = fb_ct P n
  | 0 => rfl
  | n + 1 => by rw [sumN, fb_ct_succ, sumN_ct n]
theorem sumN_mono {f g : Nat → Nat} : ∀ {n : Nat}, (∀ p, p < n → f p ≤ g p) → sumN f n ≤ sumN g n
  | 0, _ => Nat.le_refl _
  | n + 1, h => by
    have h1 := sumN_mono (n := n) (fun p hp => h p (by omega))
    have h2 := h n (by omega)
    rw [sumN, sumN]; omega
theorem sumN_two {P : Nat → Bool} : ∀ n, sumN (fun p => if P p then 2 else 0) n = 2 * fb_ct P n
  | 0 => rfl
  | n + 1 => by
    rw [sumN, fb_ct_succ, sumN_two n]
    cases P n <;> simp <;> omega
theorem ct_ends {n m : Nat} {a b : Nat → Nat} (W : Wf n m a b) {t : Nat} (ht : t < m) : fb_ct (inc a b t) n = 2 := by
  have hw := W.2.2.2.1 t ht
  rw [fb_ct_cong (p := inc a b t) (q := fun p => decide (a t = p) || decide (b t = p)) (fun p _ => rfl), fb_ct_or, ct_one (by omega), ct_one (by omega)]
  intro k _ ⟨h1, h2⟩
  simp only [decide_eq_true_eq] at h1 h2
  omega
theorem hand {n m : Nat} {a b : Nat → Nat} (W : Wf n m a b) (S : Nat → Bool) : sumN (fun p => dgS m a b S p) n = 2 * fb_ct S m := by
  have key : ∀ t, t ≤ m → sumN (fun p => fb_ct (fun k => S k && inc a b k p) t) n = 2 * fb_ct S t := by
    intro t
    induction t with
    | zero =>
      intro _
      have : ∀ n, sumN (fun p => fb_ct (fun k => S k && inc a b k p) 0) n = 0 := by
        intro n
        induction n with
        | zero => rfl
        | succ n ih => rw [sumN, ih]; rfl
      rw [this]; rfl
    | succ t ih =>
      intro ht
      rw [fb_ct_succ]
      rw [sumN_cong (f := fun p => fb_ct (fun k => S k && inc a b k p) (t + 1)) (g := fun p => fb_ct (fun k => S k && inc a b k p) t + (if S t && inc a b t p then 1 else 0)) (fun p _ => fb_ct_succ _ _), sumN_add, ih (by omega)]
      cases hs : S t with
      | false =>
        have z : fb_ct (fun p => false && inc a b t p) n = 0 := fb_ct_zero.mpr (fun p _ => Bool.false_and _)
        rw [sumN_ct (P := fun p => false && inc a b t p), z]
        simp
      | true =>
        rw [sumN_ct (P := fun p => true && inc a b t p), fb_ct_cong (p := fun p => true && inc a b t p) (q := inc a b t) (fun p _ => by simp), ct_ends W (by omega)]
        simp; omega
  exact key m (Nat.le_refl _)
section
variable {n m : Nat} {a b : Nat → Nat} {c : Nat → Int32}
theorem one_at (P : Pr n m a b c) {S : Nat → Bool} {p q : Nat} (hq : q < 9) : fb_ct (fun k => (S k && inc a b k p) && decide (c k = nI q)) m ≤ (if usd m a b c p (nI q) then 1 else 0) := by
  rcases fst_ex (fun k => (S k && inc a b k p) && decide (c k = nI q)) m with ⟨t, ht, t1, t0⟩ | h0
  · simp only [Bool.and_eq_true, decide_eq_true_eq] at t1
    have hu : usd m a b c p (nI q) = true := anyb_iff.mpr ⟨t, ht, by rw [t1.1.2, decide_eq_true t1.2]; rfl⟩
    rw [if_pos hu]
    have : fb_ct (fun k => (S k && inc a b k p) && decide (c k = nI q)) m ≤ fb_ct (fun k => decide (t = k)) m := fb_ct_sub (fun k hk h => by
      simp only [Bool.and_eq_true, decide_eq_true_eq] at h
      have := one_line P ht hk t1.1.2 h.1.2 (t1.2.trans h.2.symm) (by rw [t1.2]; exact nI_ne_m1 (by omega))
      simpa using this)
    rw [ct_one ht] at this
    exact this
  · rw [fb_ct_zero.mpr h0]; exact Nat.zero_le _
/-- of the posts of a chain at most two lack one of its colours -/
theorem two_ends (W : Wf n m a b) (P : Pr n m a b c) {o w l : Nat} (ho : o < 9) (hw : w < 9) (how : o ≠ w) (hl : l < m) (hp : plw c o w l = true) :
    fb_ct (fun p => anyb (fun k => ch m a b (plw c o w) l k && inc a b k p) m && (!usd m a b c p (nI o) || !usd m a b c p (nI w))) n ≤ 2 := by
  have h1 := chain_posts (n := n) (a := a) (b := b) hl hp
  have h2 := hand W (ch m a b (plw c o w) l)
  have pool : ∀ k, ch m a b (plw c o w) l k = true → c k = nI o ∨ c k = nI w := fun k hk => pool_or (rch_pool hk)
  generalize ch m a b (plw c o w) l = C at *
  have hdeg : ∀ p, p < n → dgS m a b C p + (if anyb (fun k => C k && inc a b k p) m && (!usd m a b c p (nI o) || !usd m a b c p (nI w)) then 1 else 0) ≤ (if anyb (fun k => C k && inc a b k p) m then 2 else 0) := by
    intro p _
    have hs : dgS m a b C p = fb_ct (fun k => (C k && inc a b k p) && decide (c k = nI o)) m + fb_ct (fun k => (C k && inc a b k p) && decide (c k = nI w)) m := by
      rw [← fb_ct_or]
      · refine fb_ct_cong (fun k _ => ?_)
        cases hC : C k with
        | false => rfl
        | true =>
          rcases pool k hC with z | z
          · rw [decide_eq_true z]; cases inc a b k p <;> simp
          · rw [decide_eq_true z]; cases inc a b k p <;> simp
      · rintro k _ ⟨g1, g2⟩
        simp only [Bool.and_eq_true, decide_eq_true_eq] at g1 g2
        exact how ((nI_ne (by omega) (by omega)).mp (g1.2.symm.trans g2.2))
    have o1 := one_at (S := C) (p := p) P ho
    have o2 := one_at (S := C) (p := p) P hw
    cases hT : anyb (fun k => C k && inc a b k p) m with
    | false =>
      have : dgS m a b C p = 0 := fb_ct_zero.mpr (anyb_no.mp hT)
      rw [this]; simp
    | true =>
      rw [hs]
      revert o1 o2
      cases usd m a b c p (nI o) <;> cases usd m a b c p (nI w) <;> simp <;> omega
  have h3 := sumN_mono hdeg
  rw [sumN_add, h2, sumN_ct (P := fun p => anyb (fun k => C k && inc a b k p) m && (!usd m a b c p (nI o) || !usd m a b c p (nI w))), sumN_two (P := fun p => anyb (fun k => C k && inc a b k p) m)] at h3
  have h4 : fb_ct (fun p => anyb (fun k => C k && inc a b k p) m) n = pst n m a b C := rfl
  rw [h4] at h3
  omega
end
