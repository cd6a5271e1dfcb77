/-! posts and lines of a chain -/
def pst (n m : Nat) (a b : Nat → Nat) (S : Nat → Bool) : Nat := fb_ct (fun p => anyb (fun k => S k && inc a b k p) m) n
theorem ct_one {n x : Nat} (hx : x < n) : fb_ct (fun p => decide (x = p)) n = 1 := by
  have h := fb_ct_upd (fun _ => false) true (i := x) (n := n) hx
  have z : fb_ct (fun _ => false) n = 0 := fb_ct_zero.mpr (fun _ _ => rfl)
  rw [z] at h
  have e : fb_ct (fun p => decide (x = p)) n = fb_ct (fun k => if k = x then true else (fun _ => false) k) n := fb_ct_cong (fun k _ => by
    by_cases h : x = k
    · subst h; simp
    · have : ¬ k = x := fun q => h q.symm
      simp [h, this])
  rw [e]
  simpa using h
theorem ct_add1 {n q : Nat} {P P' : Nat → Bool} (h : ∀ p, p < n → P' p = true → P p = true ∨ p = q) : fb_ct P' n ≤ fb_ct P n + 1 := by
  have h1 : fb_ct P' n ≤ fb_ct (fun k => if k = q then true else P k) n := fb_ct_sub (fun k hk hp => by
    rcases h k hk hp with z | z
    · by_cases y : k = q
      · simp [y]
      · simp [y, z]
    · simp [z])
  by_cases hq : q < n
  · have h2 := fb_ct_upd P true (i := q) (n := n) hq
    simp only [if_true] at h2
    omega
  · rw [fb_ct_out P true (by omega)] at h1
    omega
theorem pst_mono {n m : Nat} {a b : Nat → Nat} {S S' : Nat → Bool} (h : ∀ k, k < m → S k = true → S' k = true) : pst n m a b S ≤ pst n m a b S' := fb_ct_sub (fun p _ hp => by
  obtain ⟨k, hk, h2⟩ := anyb_iff.mp hp
  rw [Bool.and_eq_true] at h2
  exact anyb_iff.mpr ⟨k, hk, by rw [h k hk h2.1, h2.2]; rfl⟩)
/-- a chain has at most one post more than lines -/
theorem chain_posts {n m : Nat} {a b : Nat → Nat} {P : Nat → Bool} {l : Nat} (hl : l < m) (hp : P l = true) : pst n m a b (ch m a b P l) ≤ fb_ct (ch m a b P l) m + 1 := by
  have key : ∀ (d : Nat) (G : Nat → Bool), (∀ k, k < m → G k = true → ch m a b P l k = true) → G l = true → pst n m a b G ≤ fb_ct G m + 1 → fb_ct (ch m a b P l) m ≤ fb_ct G m + d → pst n m a b (ch m a b P l) ≤ fb_ct (ch m a b P l) m + 1 := by
    intro d
    induction d with
    | zero =>
      intro G h1 h2 h3 h4
      have h5 : fb_ct G m ≤ fb_ct (ch m a b P l) m := fb_ct_sub h1
      -- every line of the chain is in G
      have h6 : ∀ k, k < m → ch m a b P l k = true → G k = true := by
        intro k hk hc
        cases hg : G k with
        | true => rfl
        | false =>
          have h7 := fb_ct_upd G true (i := k) (n := m) hk
          rw [hg] at h7
          have h8 : fb_ct (fun j => if j = k then true else G j) m ≤ fb_ct (ch m a b P l) m := fb_ct_sub (fun j hj hj2 => by
            by_cases y : j = k
            · rw [y]; exact hc
            · rw [if_neg y] at hj2; exact h1 j hj hj2)
          simp only [Bool.false_eq_true, if_false, if_true] at h7
          omega
      have := pst_mono (n := n) (a := a) (b := b) h6
      omega
    | succ d ih =>
      intro G h1 h2 h3 h4
      by_cases hcl : ∀ i j, i < m → j < m → P j = true → G i = true → mts a b i j = true → G j = true
      · have h6 : ∀ k, k < m → ch m a b P l k = true → G k = true := by
          intro k hk hc
          refine rch_ind hc (fun k => G k = true) ?_ ?_
          · intro i hi _ hs
            have : i = l := by simpa using hs
            rw [this]; exact h2
          · intro i j hi hj hpj hg hmt
            exact hcl i j hi hj hpj hg hmt
        have e1 := pst_mono (n := n) (a := a) (b := b) h6
        have e2 : fb_ct G m ≤ fb_ct (ch m a b P l) m := fb_ct_sub h1
        omega
      · have ⟨i, j, hi, hj, hpj, hgi, hmt, hgj⟩ : ∃ i j, i < m ∧ j < m ∧ P j = true ∧ G i = true ∧ mts a b i j = true ∧ G j = false := by
          apply Classical.byContradiction
          intro hno
          apply hcl
          intro i j hi hj hpj hgi hmt
          cases hg : G j with
          | true => rfl
          | false => exact absurd ⟨i, j, hi, hj, hpj, hgi, hmt, hg⟩ hno
        have hct := fb_ct_upd G true (i := j) (n := m) hj
        rw [hgj] at hct
        simp only [Bool.false_eq_true, if_false, if_true] at hct
        refine ih (fun k => if k = j then true else G k) ?_ ?_ ?_ ?_
        · intro k hk hk2
          by_cases y : k = j
          · rw [y]; exact rch_step (h1 i hi hgi) hj hpj hmt
          · simp only [if_neg y] at hk2
            exact h1 k hk hk2
        · show (if l = j then true else G l) = true
          rw [h2]; split <;> rfl
        · obtain ⟨_, p, p1, p2⟩ := mts_iff.mp hmt
          -- the other end of j
          have hq : ∃ q, ∀ x, inc a b j x = true → x = p ∨ x = q := by
            rcases inc_iff.mp p2 with z | z
            · exact ⟨b j, fun x hx => by rcases inc_iff.mp hx with y | y <;> omega⟩
            · exact ⟨a j, fun x hx => by rcases inc_iff.mp hx with y | y <;> omega⟩
          obtain ⟨q, hq⟩ := hq
          have : pst n m a b (fun k => if k = j then true else G k) ≤ pst n m a b G + 1 := by
            refine ct_add1 (q := q) (fun x _ hx => ?_)
            obtain ⟨k, hk, h2⟩ := anyb_iff.mp hx
            rw [Bool.and_eq_true] at h2
            by_cases y : k = j
            · rw [y] at h2
              rcases hq x h2.2 with u | u
              · left; rw [u]; exact anyb_iff.mpr ⟨i, hi, by rw [hgi, p1]; rfl⟩
              · exact Or.inr u
            · simp only [if_neg y] at h2
              exact Or.inl (anyb_iff.mpr ⟨k, hk, by rw [h2.1, h2.2]; rfl⟩)
          omega
        · omega
  have e0 : fb_ct (fun k => decide (l = k)) m = 1 := ct_one hl
  refine key m (fun k => decide (l = k)) ?_ (by simp) ?_ ?_
  · intro k hk h
    have : l = k := by simpa using h
    rw [← this]; exact ch_rf hl hp
  · rw [e0]
    have : pst n m a b (fun k => decide (l = k)) ≤ fb_ct (fun p => decide (a l = p)) n + 1 := ct_add1 (q := b l) (fun x _ hx => by
      obtain ⟨k, hk, h2⟩ := anyb_iff.mp hx
      rw [Bool.and_eq_true] at h2
      have : l = k := by simpa using h2.1
      rw [← this] at h2
      rcases inc_iff.mp h2.2 with z | z
      · left; simpa using z
      · exact Or.inr z.symm)
    have h2 : fb_ct (fun p => decide (a l = p)) n ≤ 1 := by
      by_cases y : a l < n
      · rw [ct_one y]; exact Nat.le_refl _
      · rw [fb_ct_zero.mpr (fun k hk => decide_eq_false (by omega))]; omega
    omega
  · have := fb_ct_le (ch m a b P l) m
    omega
/-- lines apart cover two posts each -/
theorem match_posts {n m : Nat} {a b : Nat → Nat} (W : Wf n m a b) {S : Nat → Bool} (hS : ∀ i j, i < m → j < m → S i = true → S j = true → mts a b i j = false) : pst n m a b S = 2 * fb_ct S m := by
  have key : ∀ t, t ≤ m → fb_ct (fun p => anyb (fun k => S k && inc a b k p) t) n = 2 * fb_ct S t := by
    intro t
    induction t with
    | zero => intro _; exact fb_ct_zero.mpr (fun _ _ => rfl)
    | succ t ih =>
      intro ht
      have hw := W.2.2.2.1 t (by omega)
      rw [fb_ct_succ]
      have e : fb_ct (fun p => anyb (fun k => S k && inc a b k p) (t + 1)) n = fb_ct (fun p => anyb (fun k => S k && inc a b k p) t || (S t && inc a b t p)) n := rfl
      rw [e]
      cases hs : S t with
      | false =>
        rw [fb_ct_cong (q := fun p => anyb (fun k => S k && inc a b k p) t) (fun p _ => by simp), ih (by omega)]
        simp
      | true =>
        rw [fb_ct_or (p := fun p => anyb (fun k => S k && inc a b k p) t) (q := fun p => true && inc a b t p), ih (by omega)]
        · have : fb_ct (fun p => true && inc a b t p) n = 2 := by
            rw [fb_ct_cong (q := fun p => decide (a t = p) || decide (b t = p)) (fun p _ => by simp [inc]), fb_ct_or, ct_one (by omega), ct_one (by omega)]
            intro k _ ⟨h1, h2⟩
            simp only [decide_eq_true_eq] at h1 h2
            omega
          rw [this]; simp; omega
        · rintro p _ ⟨h1, h2⟩
          obtain ⟨k, hk, h3⟩ := anyb_iff.mp h1
          rw [Bool.and_eq_true] at h3
          have h2 : inc a b t p = true := by simpa using h2
          have := hS k t (by omega) (by omega) h3.1 hs
          rw [mts_iff.mpr ⟨by omega, p, h3.2, h2⟩] at this
          cases this
  exact key m (Nat.le_refl _)
/-- in a chain one colour has at most one line more than the other -/
theorem chain_lean {n m : Nat} {a b : Nat → Nat} {c : Nat → Int32} (W : Wf n m a b) (P : Pr n m a b c) {o w l : Nat} (ho : o < 9) (hw : w < 9) (how : o ≠ w) (hl : l < m) (hp : plw c o w l = true) :
    fb_ct (fun k => ch m a b (plw c o w) l k && decide (c k = nI o)) m ≤ fb_ct (fun k => ch m a b (plw c o w) l k && decide (c k = nI w)) m + 1 := by
  have h1 := chain_posts (n := n) (a := a) (b := b) hl hp
  have h2 : pst n m a b (fun k => ch m a b (plw c o w) l k && decide (c k = nI o)) = 2 * fb_ct (fun k => ch m a b (plw c o w) l k && decide (c k = nI o)) m := match_posts W (fun i j hi hj si sj => by
    rw [Bool.and_eq_true, decide_eq_true_eq] at si sj
    cases hmt : mts a b i j with
    | false => rfl
    | true =>
      have := P.2 i j hi hj hmt (si.2.trans sj.2.symm)
      rw [si.2] at this
      exact absurd this (nI_ne_m1 (by omega)))
  have h3 : pst n m a b (fun k => ch m a b (plw c o w) l k && decide (c k = nI o)) ≤ pst n m a b (ch m a b (plw c o w) l) := pst_mono (fun k _ h => by rw [Bool.and_eq_true] at h; exact h.1)
  have h4 : fb_ct (ch m a b (plw c o w) l) m = fb_ct (fun k => ch m a b (plw c o w) l k && decide (c k = nI o)) m + fb_ct (fun k => ch m a b (plw c o w) l k && decide (c k = nI w)) m := by
    rw [← fb_ct_or]
    · refine fb_ct_cong (fun k hk => ?_)
      cases hc : ch m a b (plw c o w) l k with
      | false => rfl
      | true =>
        have := rch_pool hc
        unfold plw at this
        simp only [Bool.true_and]
        exact this.symm
    · rintro k _ ⟨g1, g2⟩
      rw [Bool.and_eq_true, decide_eq_true_eq] at g1 g2
      exact how ((nI_ne (by omega) (by omega)).mp (g1.2.symm.trans g2.2))
  omega
