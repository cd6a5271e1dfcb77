/-! pair: where no round is odd the degree does -/
def kz (m : Nat) (a b : Nat → Nat) (c : Nat → Int32) (F : Nat → Bool) (u v : Int32) (x q : Nat) : Prop := ∀ T : Nat → Prop, T x → (∀ p l q, T p → F p = F x → l < m → c l = u → inc a b l p = true → inc a b l q = true → p ≠ q → T q) → (∀ p l q, T p → F p ≠ F x → l < m → c l = v → inc a b l p = true → inc a b l q = true → p ≠ q → T q) → T q
section
variable {n m : Nat} {a b : Nat → Nat} {c : Nat → Int32} {F : Nat → Bool} {u v : Int32} {x : Nat}
theorem kz_0 : kz m a b c F u v x x := fun _ h _ _ => h
theorem kz_u {p l q : Nat} (h : kz m a b c F u v x p) (hF : F p = F x) (hl : l < m) (hc : c l = u) (h1 : inc a b l p = true) (h2 : inc a b l q = true) (hn : p ≠ q) : kz m a b c F u v x q := fun T t0 t1 t2 => t1 p l q (h T t0 t1 t2) hF hl hc h1 h2 hn
theorem kz_v {p l q : Nat} (h : kz m a b c F u v x p) (hF : F p ≠ F x) (hl : l < m) (hc : c l = v) (h1 : inc a b l p = true) (h2 : inc a b l q = true) (hn : p ≠ q) : kz m a b c F u v x q := fun T t0 t1 t2 => t2 p l q (h T t0 t1 t2) hF hl hc h1 h2 hn
theorem kz_inv {q : Nat} (h : kz m a b c F u v x q) : q = x ∨ (∃ p l, kz m a b c F u v x p ∧ F p = F x ∧ l < m ∧ c l = u ∧ inc a b l p = true ∧ inc a b l q = true ∧ p ≠ q) ∨ (∃ p l, kz m a b c F u v x p ∧ F p ≠ F x ∧ l < m ∧ c l = v ∧ inc a b l p = true ∧ inc a b l q = true ∧ p ≠ q) := by
  refine (h (fun q => kz m a b c F u v x q ∧ (q = x ∨ (∃ p l, kz m a b c F u v x p ∧ F p = F x ∧ l < m ∧ c l = u ∧ inc a b l p = true ∧ inc a b l q = true ∧ p ≠ q) ∨ (∃ p l, kz m a b c F u v x p ∧ F p ≠ F x ∧ l < m ∧ c l = v ∧ inc a b l p = true ∧ inc a b l q = true ∧ p ≠ q))) ⟨kz_0, Or.inl rfl⟩ ?_ ?_).2
  · rintro p l q ⟨h1, _⟩ h2 h3 h4 h5 h6 h7
    exact ⟨kz_u h1 h2 h3 h4 h5 h6 h7, Or.inr (Or.inl ⟨p, l, h1, h2, h3, h4, h5, h6, h7⟩)⟩
  · rintro p l q ⟨h1, _⟩ h2 h3 h4 h5 h6 h7
    exact ⟨kz_v h1 h2 h3 h4 h5 h6 h7, Or.inr (Or.inr ⟨p, l, h1, h2, h3, h4, h5, h6, h7⟩)⟩
theorem inc_F (hF : ppr m a b F) {l p q : Nat} (hl : l < m) (h1 : inc a b l p = true) (h2 : inc a b l q = true) (hn : p ≠ q) : F p ≠ F q := adj_F hF (adj_ex.mpr ⟨hn, l, hl, h1, h2⟩)
theorem two_inc {l p q r : Nat} (h1 : inc a b l p = true) (h2 : inc a b l q = true) (h3 : inc a b l r = true) (hp : p ≠ q) (hr : p ≠ r) : q = r := by
  rcases inc_iff.mp h1 with x | x <;> rcases inc_iff.mp h2 with y | y <;> rcases inc_iff.mp h3 with z | z <;> omega
/-- the chain of a colour that the far post lacks never comes to it -/
theorem koenig (W : Wf n m a b) (P : Pr n m a b c) (hF : ppr m a b F) {k o w : Nat} (hk : k < m) (ho : o < 9) (hw : w < 9) (h1 : usd m a b c (a k) (nI o) = false) (h2 : usd m a b c (b k) (nI w) = false) : ∀ l, l < m → rch m a b (fun j => decide (c j = nI o) || decide (c j = nI w)) (fun j => inc a b j (b k)) l = true → inc a b l (a k) = false := by
  have same : ∀ i j p t, i < m → j < m → inc a b i p = true → inc a b j p = true → t < 9 → c i = nI t → c j = nI t → i = j := by
    intro i j p t hi hj g1 g2 ht e1 e2
    by_cases e : i = j
    · exact e
    · have := P.2 i j hi hj (mts_iff.mpr ⟨e, p, g1, g2⟩) (e1.trans e2.symm)
      rw [e1] at this
      exact absurd this (nI_ne_m1 (by omega))
  have cl : ∀ p l q, kz m a b c F (nI o) (nI w) (b k) p → l < m → (c l = nI o ∨ c l = nI w) → inc a b l p = true → inc a b l q = true → kz m a b c F (nI o) (nI w) (b k) q := by
    intro p l q hz hl hc g1 g2
    by_cases e : p = q
    · rw [← e]; exact hz
    by_cases f : F p = F (b k)
    · rcases hc with hc | hc
      · exact kz_u hz f hl hc g1 g2 e
      · rcases kz_inv hz with z | ⟨p', l', z1, z2, z3, z4, z5, z6, z7⟩ | ⟨p', l', z1, z2, z3, z4, z5, z6, z7⟩
        · have := anyb_no.mp h2 l hl
          rw [← z, g1, decide_eq_true hc] at this
          cases this
        · exact absurd (z2.trans f.symm) (inc_F hF z3 z5 z6 z7)
        · have := same l l' p w hl z3 g1 z6 hw hc z4
          subst this
          rw [two_inc g1 g2 z5 e (Ne.symm z7)]
          exact z1
    · rcases hc with hc | hc
      · rcases kz_inv hz with z | ⟨p', l', z1, z2, z3, z4, z5, z6, z7⟩ | ⟨p', l', z1, z2, z3, z4, z5, z6, z7⟩
        · exact absurd (by rw [z]) f
        · have := same l l' p o hl z3 g1 z6 ho hc z4
          subst this
          rw [two_inc g1 g2 z5 e (Ne.symm z7)]
          exact z1
        · have := inc_F hF z3 z5 z6 z7
          exfalso
          cases t1 : F p <;> cases t2 : F p' <;> cases t3 : F (b k) <;> simp_all
      · exact kz_v hz f hl hc g1 g2 e
  have all : ∀ l, l < m → rch m a b (fun j => decide (c j = nI o) || decide (c j = nI w)) (fun j => inc a b j (b k)) l = true → ∀ q, inc a b l q = true → kz m a b c F (nI o) (nI w) (b k) q := by
    intro l hl h
    refine rch_ind h (fun l => ∀ q, inc a b l q = true → kz m a b c F (nI o) (nI w) (b k) q) ?_ ?_
    · intro i hi hp hs q hq
      exact cl (b k) i q kz_0 hi (pool_or hp) hs hq
    · intro i j hi hj hp ht hm q hq
      obtain ⟨_, r, r1, r2⟩ := mts_iff.mp hm
      exact cl r j q (ht r r1) hj (pool_or hp) r2 hq
  intro l hl h
  cases z : inc a b l (a k) with
  | false => rfl
  | true =>
    exfalso
    have f := hF k hk
    rcases kz_inv (all l hl h (a k) z) with y | ⟨p', l', z1, z2, z3, z4, z5, z6, z7⟩ | ⟨p', l', z1, z2, z3, z4, z5, z6, z7⟩
    · rw [y] at f; exact f rfl
    · have := anyb_no.mp h1 l' z3
      rw [z6, decide_eq_true z4] at this
      cases this
    · have := inc_F hF z3 z5 z6 z7
      cases t1 : F (a k) <;> cases t2 : F p' <;> cases t3 : F (b k) <;> simp_all
/-- a post with a bare line lacks a colour below the degree -/
theorem free_below (W : Wf n m a b) {p k : Nat} (hp : p < n) (hk : k < m) (hi : inc a b k p = true) (hc : c k = -1) : ∃ t, t < Dg n m a b ∧ usd m a b c p (nI t) = false ∧ ∀ j, j < t → usd m a b c p (nI j) = true := by
  have hD := Dg_le8 W
  obtain ⟨t, t1, t2, t3⟩ := free_ex (m := m) (a := a) (b := b) (c := c) hp hD
  refine ⟨t, ?_, t2, t3⟩
  obtain ⟨s, s1, s2, _⟩ := free_ex (m := m) (a := a) (b := b) (c := upd c k (nI (Dg n m a b))) hp hD
  have sD : s ≠ Dg n m a b := by
    intro e
    have := anyb_no.mp s2 k hk
    rw [hi, upd_at, e] at this
    simp at this
  have us : usd m a b c p (nI s) = false := by
    refine anyb_no.mpr (fun j hj => ?_)
    by_cases e : j = k
    · have : ¬ c j = nI s := fun z => by
        rw [e, hc] at z
        exact nI_ne_m1 (show s < 2 ^ 31 by omega) z.symm
      rw [decide_eq_false this, Bool.and_false]
    · have := anyb_no.mp s2 j hj
      rw [upd_ne _ _ e] at this
      exact this
  rcases Nat.lt_or_ge s t with g | g
  · rw [t3 s g] at us; cases us
  · omega
/-- what a line is given, and what it makes of the colours -/
def psT (n m : Nat) (a b : Nat → Nat) (c : Nat → Int32) (k : Nat) (c' : Nat → Int32) : Prop :=
  (∃ q, q < Dg n m a b ∧ usd m a b c (a k) (nI q) = false ∧ usd m a b c (b k) (nI q) = false ∧ (∀ j, j < q → (usd m a b c (a k) (nI j) || usd m a b c (b k) (nI j)) = true) ∧ c' = upd c k (nI q)) ∨
  ((∀ j, j < Dg n m a b → (usd m a b c (a k) (nI j) || usd m a b c (b k) (nI j)) = true) ∧ ∃ o w, o ≠ w ∧ (o < Dg n m a b ∧ usd m a b c (a k) (nI o) = false ∧ ∀ j, j < o → usd m a b c (a k) (nI j) = true) ∧ (w < Dg n m a b ∧ usd m a b c (b k) (nI w) = false ∧ ∀ j, j < w → usd m a b c (b k) (nI j) = true) ∧ c' = upd (flp c (rch m a b (fun j => decide (c j = nI o) || decide (c j = nI w)) (fun j => inc a b j (b k))) o w) k (nI o))
theorem ps_ex (W : Wf n m a b) {k : Nat} (hk : k < m) (hc : c k = -1) : ∃ c', psT n m a b c k c' := by
  have hw := W.2.2.2.1 k hk
  rcases fst_ex (fun q => !usd m a b c (a k) (nI q) && !usd m a b c (b k) (nI q)) (Dg n m a b) with ⟨q, h1, h2, h3⟩ | h
  · have h2 : usd m a b c (a k) (nI q) = false ∧ usd m a b c (b k) (nI q) = false := by simpa using h2
    refine ⟨_, Or.inl ⟨q, h1, h2.1, h2.2, fun j hj => ?_, rfl⟩⟩
    have := h3 j hj
    cases x : usd m a b c (a k) (nI j) <;> cases y : usd m a b c (b k) (nI j) <;> simp_all
  · have h : ∀ j, j < Dg n m a b → (usd m a b c (a k) (nI j) || usd m a b c (b k) (nI j)) = true := fun j hj => by
      have := h j hj
      cases x : usd m a b c (a k) (nI j) <;> cases y : usd m a b c (b k) (nI j) <;> simp_all
    obtain ⟨o, o1, o2, o3⟩ := free_below (c := c) W (show a k < n by omega) hk (inc_iff.mpr (Or.inl rfl)) hc
    obtain ⟨w, w1, w2, w3⟩ := free_below (c := c) W hw.2 hk (inc_iff.mpr (Or.inr rfl)) hc
    refine ⟨_, Or.inr ⟨h, o, w, fun e => ?_, ⟨o1, o2, o3⟩, ⟨w1, w2, w3⟩, rfl⟩⟩
    have := h o o1
    rw [o2, e, w2] at this
    cases this
theorem ps_ok (W : Wf n m a b) (P : Pr n m a b c) (hF : ppr m a b F) {k : Nat} {c' : Nat → Int32} (hk : k < m) (hc : c k = -1) (h : psT n m a b c k c') : Pr n m a b c' ∧ ∀ j, k < j → c j = -1 → c' j = -1 := by
  have hD := Dg_le8 W
  rcases h with ⟨q, q1, q2, q3, _, rfl⟩ | ⟨_, o, w, how, ⟨o1, o2, o3⟩, ⟨w1, w2, w3⟩, rfl⟩
  · refine ⟨Pr_upd P (Or.inr ⟨q, by omega, rfl⟩) (fun j hj hm he => absurd he (free_both q2 q3 j hj hm)), fun j hj h => ?_⟩
    rw [upd_ne _ _ (by omega)]; exact h
  · have kn := koenig W P hF hk (show o < 9 by omega) (show w < 9 by omega) o2 w2
    have pool : ∀ l, l < m → rch m a b (fun j => decide (c j = nI o) || decide (c j = nI w)) (fun j => inc a b j (b k)) l = true → c l = nI o ∨ c l = nI w := fun l _ h => pool_or (rch_pool h)
    refine ⟨Pr_upd (chain_flp P (by omega) (by omega) how hD) (Or.inr ⟨o, by omega, rfl⟩) (fun j hj hm he => absurd he (free_both ?_ ?_ j hj hm)), fun j hj h => ?_⟩
    · rw [usd_out _ _ kn]; exact o2
    · rw [(usd_in (by omega) (by omega) how pool (fun l hl hi hp => rch_start hl (by rcases hp with z | z <;> simp [z]) hi)).1]; exact w2
    · rw [upd_ne _ _ (by omega)]
      show (if _ then _ else _) = _
      cases z : rch m a b (fun j => decide (c j = nI o) || decide (c j = nI w)) (fun j => inc a b j (b k)) j with
      | false => exact h
      | true =>
        rcases pool j (rch_lt z) z with y | y
        · rw [h] at y; exact absurd y.symm (nI_ne_m1 (by omega))
        · rw [h] at y; exact absurd y.symm (nI_ne_m1 (by omega))
theorem ps_pick (W : Wf n m a b) : ∃ g : (Nat → Int32) × Nat → (Nat → Int32), ∀ q, q.2 < m → q.1 q.2 = -1 → psT n m a b q.1 q.2 (g q) := by
  refine Classical.axiomOfChoice (r := fun (q : (Nat → Int32) × Nat) (t : Nat → Int32) => q.2 < m → q.1 q.2 = -1 → psT n m a b q.1 q.2 t) (fun q => ?_)
  by_cases h : q.2 < m ∧ q.1 q.2 = -1
  · obtain ⟨c', h'⟩ := ps_ex W h.1 h.2
    exact ⟨c', fun _ _ => h'⟩
  · exact ⟨fun _ => 0, fun h1 h2 => absurd ⟨h1, h2⟩ h⟩
def psq (g : (Nat → Int32) × Nat → (Nat → Int32)) : Nat → (Nat → Int32)
  | 0 => fun _ => -1
  | k + 1 => g (psq g k, k)
theorem psq_ok (W : Wf n m a b) (hF : ppr m a b F) {g : (Nat → Int32) × Nat → (Nat → Int32)} (hg : ∀ q, q.2 < m → q.1 q.2 = -1 → psT n m a b q.1 q.2 (g q)) : ∀ k, k ≤ m → Pr n m a b (psq g k) ∧ ∀ j, k ≤ j → psq g k j = -1
  | 0, _ => ⟨⟨fun _ _ => Or.inl rfl, fun _ _ _ _ _ _ => rfl⟩, fun _ _ => rfl⟩
  | k + 1, hk => by
    obtain ⟨p1, p2⟩ := psq_ok W hF hg k (by omega)
    obtain ⟨q1, q2⟩ := ps_ok W p1 hF (show k < m by omega) (p2 k (Nat.le_refl _)) (hg (psq g k, k) (show k < m by omega) (p2 k (Nat.le_refl _)))
    exact ⟨q1, fun j hj => q2 j (by omega) (p2 j (by omega))⟩
theorem sc_below {σ : kk_St} (N : RN n m a b σ) (K : RK m c σ) (W : Wf n m a b) (P : Pr n m a b c) {k : Nat} {c' : Nat → Int32} (hk : k < m) (h : psT n m a b c k c') {Q : kk_St → Prop} (hQ : ∀ τ, frL [16, 17] σ τ → RK m c' τ → Q τ) : f_X3_giveBelowDegree (nI k) σ Q := by
  have hD := Dg_le8 W
  have hm := W.2.2.1
  have hn := W.2.1
  have hw0 := W.2.2.2.1 k hk
  unfold f_X3_giveBelowDegree
  refine sc_freeAtBoth N K W hk ?_
  rintro _ rfl
  rw [N.2.2.1, easy_eq hD]
  rcases h with ⟨q, q1, q2, q3, q4, rfl⟩ | ⟨h, o, w, how, ⟨o1, o2, o3⟩, ⟨w1, w2, w3⟩, rfl⟩
  · have e1 : (!usd m a b c (a k) (nI q) && !usd m a b c (b k) (nI q)) = true := by rw [q2, q3]; rfl
    refine br_f (fun z => ?_) ?_
    · have := (mk_eq0 (by omega)).mp z q q1
      rw [e1] at this; cases this
    · refine sp_ntzM (by omega) q1 e1 (fun j hj => ?_) ?_
      · have := q4 j hj
        cases x : usd m a b c (a k) (nI j) <;> cases y : usd m a b c (b k) (nI j) <;> simp_all
      · exact sc_give K (Pr9 W P) hm hk (by omega) (fun τ K' F' => hQ τ F' K')
  · refine br_t ((mk_eq0 (by omega)).mpr (fun j hj => ?_)) ?_
    · have := h j hj
      cases x : usd m a b c (a k) (nI j) <;> cases y : usd m a b c (b k) (nI j) <;> simp_all
    · refine ⟨vp_lt (by omega) (by omega), ?_⟩
      rw [rd_nI (by omega), rd_nI (by omega), N.2.2.2.1 k hk, N.2.2.2.2.1 k hk]
      refine sc_leastFreeAt N K W (by omega) (by omega) o2 o3 ⟨vp_lt (by omega) (by omega), ?_⟩
      refine sc_leastFreeAt N K W (by omega) (by omega) w2 w3 ⟨vp_lt (by omega) (by omega), ?_⟩
      refine sc_chainOf N K hm (by omega) (by omega) (by omega) ?_
      refine sc_flip N K hm (by omega) (by omega) how (fun l _ h => pool_or (rch_pool h)) (fun τ K1 F1 => ?_)
      exact sc_give K1 (Pr9 W (chain_flp P (by omega) (by omega) how hD)) hm hk (by omega) (fun τ' K' F' => hQ τ' (frL_tr F1 F') K')
end
theorem q_pair : pr_pair Rel := by
  rintro σ1 σ2 ⟨n, m, a, b, c, kp, ls, kf, gf, W, P, M, N, K, Z⟩ _
  have hm := W.2.2.1
  have hn := W.2.1
  have hD := Dg_le8 W
  unfold f_X10_pair
  refine sc_onePart N W (fun F hF => ?_) (fun hF => jn_f rfl ?_)
  · have nz : ¬ mk F n = 0 := fun z => by
      obtain ⟨p, p1, p2⟩ := hF.2 0 (by have := W.1; omega)
      rw [(mk_eq0 (by omega)).mp z p p2.1] at p1
      cases p1
    refine jn_t nz ?_
    obtain ⟨g, hg⟩ := ps_pick (n := n) (m := m) (a := a) (b := b) W
    have ok := psq_ok W hF.1 hg
    refine sc_clear hm (fun τ0 K0 F0 => ?_)
    have N0 := RN_fr N F0 (by simp)
    refine lf_2_0 m (by omega) (fun k τ => frL [16, 17] σ1 τ ∧ RK m (psq g k) τ) (Nat.zero_le _) ⟨F0, K0⟩ ?_ ?_
    · rintro rec k τ hk ⟨Fk, Kk⟩ hrec
      have Nk := RN_fr N Fk (by simp)
      obtain ⟨p1, p2⟩ := ok k (by omega)
      rw [Nk.2.1]
      refine br_f (nI_ge hk (by omega)) ?_
      exact sc_below Nk Kk W p1 hk (hg (psq g k, k) hk (p2 k (Nat.le_refl _))) (fun τ' F' K' => hrec _ ⟨frL_tr Fk F', K'⟩)
    rintro rec τ ⟨Fk, Kk⟩
    have Nk := RN_fr N Fk (by simp)
    rw [Nk.2.1]
    refine br_t (nI_le (Nat.le_refl _) (by omega)) ?_
    unfold f_X11_pair
    refine sm_laysSides M W (fun F' ρ0 _ G0 _ => jn_t (by decide) ?_) (fun h => absurd ⟨F, hF.1⟩ h)
    have M0 := RM_fr M G0 (by simp) (by simp)
    refine sm_degree M0 W ?_
    refine lf_2_0 m (by omega) (fun k ρ => frF [8, 3] [9] σ2 ρ ∧ ∀ j, j < k → ρ.1 3 j = -1) (Nat.zero_le _) ⟨frF_mono G0 (by simp) (by simp), fun _ h => absurd h (Nat.not_lt_zero _)⟩ ?_ ?_
    · rintro rec6 k ρ hk ⟨Gk, i1⟩ hrec6
      have e2 : ρ.1 0 2 = nI m := by rw [Gk.2.1 2 (by simp)]; exact M.2.1
      rw [e2]
      refine br_f (nI_ge hk (by omega)) ⟨vp_lt (by omega) (by omega), ?_⟩
      rintro _ rfl
      refine hrec6 _ ⟨frF_tr Gk (frF_c (by simp) (by decide)), fun j hj => ?_⟩
      rw [nI_clamp (by omega), wr_at, upd_if]
      by_cases e : j = k
      · rw [if_pos e]
      · rw [if_neg e]; exact i1 j (by omega)
    rintro rec6 ρ1 ⟨G1, i1⟩
    have e2 : ρ1.1 0 2 = nI m := by rw [G1.2.1 2 (by simp)]; exact M.2.1
    rw [e2]
    refine br_t (nI_le (Nat.le_refl _) (by omega)) ?_
    refine lf_2_0 m (by omega) (fun k ρ => frF [8, 3] [9] σ2 ρ ∧ RM n m a b (psq g k) ρ) (Nat.zero_le _) ⟨G1, RM_col M G1 (by simp) (by simp) i1⟩ ?_ ?_
    · rintro rec9 k ρ hk ⟨Gk, Mk⟩ hrec9
      obtain ⟨p1, p2⟩ := ok k (by omega)
      have hw0 := W.2.2.2.1 k hk
      rw [Mk.2.1]
      refine br_f (nI_ge hk (by omega)) ⟨vp_lt (by omega) (by omega), ?_⟩
      rw [rd_nI (by omega), rd_nI (by omega), Mk.2.2.1 k hk, Mk.2.2.2.1 k hk]
      refine sm_usedAt Mk W (Pr9 W p1) (by omega) ⟨vp_lt (by omega) (by omega), ?_⟩
      refine sm_usedAt Mk W (Pr9 W p1) (by omega) ?_
      rw [mk_or]
      have T : psT n m a b (psq g k) k (g (psq g k, k)) := hg (psq g k, k) hk (p2 k (Nat.le_refl _))
      have sq : psq g (k + 1) = g (psq g k, k) := rfl
      rcases T with ⟨q, q1, q2, q3, q4, e⟩ | ⟨h, o, w, how, ⟨o1, o2, o3⟩, ⟨w1, w2, w3⟩, e⟩
      · refine lf_1_0 q (by omega) (fun _ => True) (Nat.zero_le _) trivial ?_ ?_
        · intro rec13 t ht _ hrec13
          refine sp_hasM (by omega) (by omega) ?_
          rw [q4 t ht, if_pos rfl]
          exact br_f (by decide) (hrec13 trivial)
        · intro rec13 _
          refine sp_hasM (by omega) (by omega) ?_
          dsimp only [kk_j2]
          rw [q2, q3]
          refine br_t rfl (br_t (nI_lt (by omega) (by omega)) ⟨vp_lt (by omega) (by omega), ?_⟩)
          rintro _ rfl
          refine hrec9 _ ⟨frF_tr Gk (frF_c (by simp) (by decide)), ?_⟩
          refine RM_col Mk (frF_c (L := [3]) (F := []) (by simp) (by decide)) (by simp) (by simp) (fun j hj => ?_)
          rw [sq, e, nI_clamp (by omega), wr_at, upd_if, upd_if, Mk.2.2.2.2 j hj]
      · obtain ⟨q, hq, hq9, q1⟩ : ∃ q, Dg n m a b ≤ q ∧ q ≤ 9 ∧ (∀ j, j < q → bt (mk (fun j => usd m a b (psq g k) (a k) (nI j) || usd m a b (psq g k) (b k) (nI j)) 9) j = true) ∧ bt (mk (fun j => usd m a b (psq g k) (a k) (nI j) || usd m a b (psq g k) (b k) (nI j)) 9) q = false := by
          rcases fst_ex (fun j => !bt (mk (fun j => usd m a b (psq g k) (a k) (nI j) || usd m a b (psq g k) (b k) (nI j)) 9) j) 10 with ⟨t, t1, t2, t3⟩ | t
          · refine ⟨t, ?_, by omega, fun j hj => by simpa using t3 j hj, by simpa using t2⟩
            rcases Nat.lt_or_ge t (Dg n m a b) with y | y
            · rw [mk_bt _ _ (by omega), h t y] at t2
              simp at t2
              omega
            · exact y
          · have := t 9 (by omega)
            rw [mk_bt _ _ (by omega)] at this
            simp at this
        refine lf_1_0 q (by omega) (fun _ => True) (Nat.zero_le _) trivial ?_ ?_
        · intro rec13 t ht _ hrec13
          refine sp_has (by omega) ?_
          rw [q1.1 t ht, if_pos rfl]
          exact br_f (by decide) (hrec13 trivial)
        · intro rec13 _
          refine sp_has (by omega) ?_
          dsimp only [kk_j2]
          rw [q1.2]
          refine br_t rfl (br_f (nI_nlt hq (by omega)) ⟨vp_lt (by omega) (by omega), ?_⟩)
          refine sm_leastFreeAt Mk W (by omega) (by omega) o2 o3 ⟨vp_lt (by omega) (by omega), ?_⟩
          refine sm_leastFreeAt Mk W (by omega) (by omega) w2 w3 ⟨vp_lt (by omega) (by omega), ?_⟩
          refine sm_chainIn Mk W (by decide) Mk.2.2.2.2 (by omega) (fun ρ' G' _ => ?_)
          have M' := RM_fr Mk G' (by simp) (by simp)
          refine sm_flips hm (by omega) (by omega) M'.2.2.2.2 (fun l _ h => pool_or (rch_pool h)) (fun ρ'' c1 _ G'' => ⟨vp_lt (by omega) (by omega), ?_⟩)
          rintro _ rfl
          have GG : frF [8, 3] [9] ρ ρ'' := frF_tr (frF_mono G' (by simp) (by simp)) (frF_L (frL_mono G'' (by simp)) (by simp))
          refine hrec9 _ ⟨frF_tr (frF_tr Gk GG) (frF_c (by simp) (by decide)), ?_⟩
          refine RM_col Mk (frF_tr GG (frF_c (by simp) (by decide))) (by simp) (by simp) (fun j hj => ?_)
          rw [sq, e, nI_clamp (by omega), wr_at, upd_if, upd_if, c1 j hj]
    rintro rec9 ρ ⟨Gk, Mk⟩
    rw [Mk.2.1]
    refine br_t (nI_le (Nat.le_refl _) (by omega)) ⟨rfl, n, m, a, b, psq g m, kp, ls, kf, gf, W, (ok m (Nat.le_refl _)).1, Mk, Nk, Kk, Rest_fr Z Fk Gk (by simp) (by simp) (by simp)⟩
  · unfold f_X11_pair
    refine sm_laysSides M W (fun F' ρ0 hF' _ _ => absurd ⟨F', hF'.1⟩ hF) (fun _ ρ G => jn_f rfl ⟨rfl, ?_⟩)
    exact ⟨n, m, a, b, c, kp, ls, kf, gf, W, P, RM_fr M G (by simp) (by simp), N, K, Rest_fr Z (frL_rf (L := [])) G (by simp) (by simp) (by simp)⟩
