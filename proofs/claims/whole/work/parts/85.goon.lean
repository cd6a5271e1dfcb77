/-! the second side's search: going on -/
section
variable {n m : Nat} {a b : Nat → Nat} {σ : kk_St} {c : Nat → Int32} {O : Nat → Nat → Bool} {S : Nat → Bool} {pk : Nat → Int32}
def alk (m : Nat) (O : Nat → Nat → Bool) (σ : kk_St) : Prop := σ.1 0 17 = 0 ∨ (σ.1 0 17 = 1 ∧ ∀ l l' q, l < m → l' < m → O q l = O q l')
def unp (m : Nat) (S : Nat → Bool) (pk : Nat → Int32) : Nat := fb_ct (fun l => S l && decide (pk l = -1)) m
theorem unp_upd {l q : Nat} (hl : l < m) (hs : S l = true) (hp : pk l = -1) (hq : q < 9) : unp m S (upd pk l (nI q)) < unp m S pk := ct_strict (x := l) (fun k _ h => by
  rw [Bool.and_eq_true] at h ⊢
  refine ⟨h.1, ?_⟩
  by_cases e : k = l
  · rw [e]; exact decide_eq_true hp
  · have := h.2
    rw [upd_ne _ _ e] at this
    exact this) hl (by rw [upd_at, decide_eq_false (nI_ne_m1 (by omega)), Bool.and_false]) (by rw [hs, decide_eq_true hp]; rfl)
theorem unp_pos {l : Nat} (hl : l < m) (hs : S l = true) (hp : pk l = -1) : 1 ≤ unp m S pk := by
  rcases Nat.eq_zero_or_pos (unp m S pk) with z | z
  · have := fb_ct_zero.mp z l hl
    rw [hs, decide_eq_true hp] at this
    cases this
  · exact z
/-- all picked: a colouring -/
theorem GO_full (G : PG m a b O S pk) (h : ∀ l, l < m → S l = true → pk l ≠ -1) : ∃ f, GO m a b O S pk f := by
  have v : ∀ l, l < m → S l = true → ∃ q, q < 9 ∧ pk l = nI q ∧ O q l = true := fun l hl hs => by
    rcases G.1 l hl with z | ⟨_, z⟩
    · exact absurd z (h l hl hs)
    · exact z
  refine ⟨fun l => (pk l).toNatClampNeg, ⟨fun l hl hs => ?_, fun i j hi hj h1 h2 hm e => ?_⟩, fun l hl hne => ?_⟩
  · obtain ⟨q, q1, q2, q3⟩ := v l hl hs
    dsimp only
    rw [q2, nI_clamp (by omega)]
    exact LO_mk q1 q3
  · obtain ⟨q, q1, q2, q3⟩ := v i hi h1
    obtain ⟨q', q1', q2', q3'⟩ := v j hj h2
    dsimp only at e
    rw [q2, q2', nI_clamp (by omega), nI_clamp (by omega)] at e
    exact h i hi h1 (G.2 i j hi hj hm (by rw [q2, q2', e]))
  · rcases G.1 l hl with z | ⟨hs, q, q1, q2, _⟩
    · exact absurd z hne
    · refine ⟨hs, ?_⟩
      dsimp only
      rw [q2, nI_clamp (by omega)]
def msr (R : Nat → Nat → Bool) (d : Nat) : Nat := sumN (fun i => fb_ct (R i) 9 * 11 ^ (20 - i)) (d + 1) + (d + 1)
/-- the rows of the search: picks, lines and what is left to try, place by place -/
def Stk (m : Nat) (a b : Nat → Nat) (O : Nat → Nat → Bool) (S : Nat → Bool) (pk : Nat → Int32) (d : Nat) (P : Nat → Nat → Int32) (T : Nat → Nat) (R : Nat → Nat → Bool) (τ : kk_St) : Prop :=
  P 0 = pk ∧ (∀ i, i < d → ∃ q, q < 9 ∧ wy m a b O (P i) (T i) q = true ∧ P (i + 1) = upd (P i) (T i) (nI q)) ∧
  (∀ i, i ≤ d → T i < m ∧ S (T i) = true ∧ P i (T i) = -1 ∧ PG m a b O S (P i) ∧ (∀ l, l < m → pk l ≠ -1 → P i l = pk l) ∧ (∀ q, q < 9 → R i q = true → wy m a b O (P i) (T i) q = true) ∧ τ.1 13 i = nI (T i) ∧ τ.1 14 i = mk (R i) 9) ∧
  ((∃ f, GO m a b O S pk f) → ∃ i f, i ≤ d ∧ GO m a b O S (P i) f ∧ R i (f (T i)) = true) ∧ d + unp m S (P d) ≤ 20
/-- the picks as they stand: with or without one for the last line -/
def Cur (m : Nat) (a b : Nat → Nat) (O : Nat → Nat → Bool) (p : Nat → Int32) (t : Nat) (τ : kk_St) : Prop := (PKc m p τ ∧ US m a b p τ) ∨ ∃ q, q < 9 ∧ wy m a b O p t q = true ∧ PKc m (upd p t (nI q)) τ ∧ US m a b (upd p t (nI q)) τ
def Inv (m : Nat) (a b : Nat → Nat) (O : Nat → Nat → Bool) (S : Nat → Bool) (pk : Nat → Int32) (σ : kk_St) (N : Nat) (v f : Int32) (τ : kk_St) : Prop :=
  frF [11, 12, 13, 14, 15] [23] σ τ ∧ (∃ t, t ≤ 9 ∧ τ.1 0 23 = nI t) ∧
  ((f = 1 ∧ (∃ g, GO m a b O S pk g) ∧ ∀ l, l < m → pk l ≠ -1 → τ.1 11 l = pk l) ∨
   (f = 0 ∧ v = -1 ∧ (¬ ∃ g, GO m a b O S pk g) ∧ ∀ l, l < m → pk l ≠ -1 → τ.1 11 l = pk l) ∨
   (f = 0 ∧ ∃ d P T R, v = nI d ∧ Stk m a b O S pk d P T R τ ∧ Cur m a b O (P d) (T d) τ ∧ N = msr R d))
theorem Stk_d {d : Nat} {P : Nat → Nat → Int32} {T : Nat → Nat} {R : Nat → Nat → Bool} {τ : kk_St} (h : Stk m a b O S pk d P T R τ) : d ≤ 19 := by
  obtain ⟨_, _, h3, _, h5⟩ := h
  obtain ⟨t1, t2, t3, _⟩ := h3 d (Nat.le_refl _)
  have := unp_pos t1 t2 t3
  omega
/-- a try taken away from the last row -/
def Rno (R : Nat → Nat → Bool) (d : Nat) : Nat → Nat → Bool := fun i q => if i = d then R d q && anyb (R d) q else R i q
theorem Rno_ct {R : Nat → Nat → Bool} {d q : Nat} (hq : q < 9) (h1 : R d q = true) (h0 : ∀ j, j < q → R d j = false) : fb_ct (Rno R d d) 9 < fb_ct (R d) 9 := ct_strict (x := q) (fun k _ h => by
  unfold Rno at h
  rw [if_pos rfl, Bool.and_eq_true] at h
  exact h.1) hq (by
  unfold Rno
  rw [if_pos rfl, anyb_no.mpr h0, Bool.and_false]) h1
theorem msr_no {R : Nat → Nat → Bool} {d q : Nat} (hq : q < 9) (h1 : R d q = true) (h0 : ∀ j, j < q → R d j = false) : msr (Rno R d) d + 11 ^ (20 - d) ≤ msr R d := by
  have lt := Rno_ct hq h1 h0
  have e : sumN (fun i => fb_ct (Rno R d i) 9 * 11 ^ (20 - i)) d = sumN (fun i => fb_ct (R i) 9 * 11 ^ (20 - i)) d := sumN_cong (fun i hi => by
    have : Rno R d i = R i := by
      funext q
      unfold Rno
      rw [if_neg (by omega)]
    rw [this])
  unfold msr
  show sumN _ d + _ + (d + 1) + _ ≤ sumN _ d + _ + (d + 1)
  rw [e]
  have := Nat.mul_le_mul_right (11 ^ (20 - d)) (show fb_ct (Rno R d d) 9 + 1 ≤ fb_ct (R d) 9 from lt)
  rw [Nat.add_mul, Nat.one_mul] at this
  dsimp only
  omega
theorem frF_w {L F : List Nat} {σ τ : kk_St} {q i : Nat} {x : Int32} (h : frF L F σ τ) (h1 : q ∈ L) (h0 : q ≠ 0) : frF L F σ (kk_wr τ q i x) := frF_tr h (frF_c h1 h0)
/-- one try: what becomes of the rows -/
theorem try_st {d : Nat} {P : Nat → Nat → Int32} {T : Nat → Nat} {R : Nat → Nat → Bool} {τ τ' : kk_St} (h : Stk m a b O S pk d P T R τ) {q : Nat} (hq : q < 9) (h1 : R d q = true) (h0 : ∀ j, j < q → R d j = false) (e13 : τ'.1 13 = τ.1 13) (e14 : τ'.1 14 = upd (τ.1 14) d (mk (fun x => R d x && anyb (R d) x) 9)) (no : ¬ ∃ f, GO m a b O S (upd (P d) (T d) (nI q)) f) : Stk m a b O S pk d P T (Rno R d) τ' := by
  obtain ⟨s1, s2, s3, s4, s5⟩ := h
  refine ⟨s1, s2, fun i hi => ?_, fun hx => ?_, s5⟩
  · obtain ⟨t1, t2, t3, t4, t5, t6, t7, t8⟩ := s3 i hi
    refine ⟨t1, t2, t3, t4, t5, fun x hx hr => ?_, by rw [e13]; exact t7, ?_⟩
    · unfold Rno at hr
      by_cases e : i = d
      · rw [if_pos e, Bool.and_eq_true, ← e] at hr
        exact t6 x hx hr.1
      · rw [if_neg e] at hr; exact t6 x hx hr
    · rw [e14, upd_if]
      by_cases e : i = d
      · rw [if_pos e]
        exact mk_cong (fun x _ => by unfold Rno; rw [if_pos e])
      · rw [if_neg e, t8]
        exact mk_cong (fun x _ => by unfold Rno; rw [if_neg e])
  · obtain ⟨i, f, i1, i2, i3⟩ := s4 hx
    refine ⟨i, f, i1, i2, ?_⟩
    unfold Rno
    by_cases e : i = d
    · subst e
      rw [if_pos rfl, i3, Bool.true_and]
      cases z : anyb (R i) (f (T i)) with
      | true => rfl
      | false =>
        exfalso
        have ge := anyb_no.mp z
        have eq : f (T i) = q := by
          rcases Nat.lt_trichotomy (f (T i)) q with y | y | y
          · rw [h0 _ y] at i3; cases i3
          · exact y
          · rw [ge q y] at h1; cases h1
        refine no ⟨f, ?_⟩
        rw [← eq]
        exact GO_add i2 (s3 i (Nat.le_refl _)).2.1
    · rw [if_neg e]; exact i3
def ext1 {α : Type} (f : Nat → α) (k : Nat) (x : α) : Nat → α := fun i => if i = k then x else f i
theorem x1_at {α : Type} (f : Nat → α) (k : Nat) (x : α) : ext1 f k x k = x := if_pos rfl
theorem x1_ne {α : Type} (f : Nat → α) {k i : Nat} (x : α) (h : ¬ i = k) : ext1 f k x i = f i := if_neg h
/-- one line more -/
theorem push_st {d : Nat} {P : Nat → Nat → Int32} {T : Nat → Nat} {R : Nat → Nat → Bool} {τ τ' : kk_St} (h : Stk m a b O S pk d P T R τ) {q t : Nat} {R' : Nat → Bool} (hq : q < 9) (h1 : R d q = true) (h0 : ∀ j, j < q → R d j = false) (ht : t < m) (hs : S t = true) (hp : upd (P d) (T d) (nI q) t = -1) (hR : ∀ x, x < 9 → R' x = true → wy m a b O (upd (P d) (T d) (nI q)) t x = true) (hG : (∃ f, GO m a b O S (upd (P d) (T d) (nI q)) f) → ∃ f, GO m a b O S (upd (P d) (T d) (nI q)) f ∧ R' (f t) = true) (e13 : τ'.1 13 = upd (τ.1 13) (d + 1) (nI t)) (e14 : τ'.1 14 = upd (upd (τ.1 14) d (mk (fun x => R d x && anyb (R d) x) 9)) (d + 1) (mk R' 9)) :
    Stk m a b O S pk (d + 1) (ext1 P (d + 1) (upd (P d) (T d) (nI q))) (ext1 T (d + 1) t) (ext1 (Rno R d) (d + 1) R') τ' := by
  obtain ⟨s1, s2, s3, s4, s5⟩ := h
  obtain ⟨d1, d2, d3, d4, d5, d6, d7, d8⟩ := s3 d (Nat.le_refl _)
  have wq := d6 q hq h1
  refine ⟨?_, fun i hi => ?_, fun i hi => ?_, fun hx => ?_, ?_⟩
  · rw [x1_ne _ _ (by omega)]; exact s1
  · rw [x1_ne _ _ (show ¬ i = d + 1 by omega), x1_ne _ _ (show ¬ i = d + 1 by omega)]
    by_cases e : i = d
    · subst e
      rw [x1_at]; exact ⟨q, hq, wq, rfl⟩
    · rw [x1_ne _ _ (show ¬ i + 1 = d + 1 by omega)]
      exact s2 i (by omega)
  · by_cases e : i = d + 1
    · subst e
      rw [x1_at, x1_at, x1_at]
      refine ⟨ht, hs, hp, PG_add d4 d1 d2 hq wq, fun l hl hne => ?_, hR, by rw [e13, upd_at], by rw [e14, upd_at]⟩
      have ne : l ≠ T d := fun z => by
        have := d5 l hl hne
        rw [z, d3] at this
        rw [z] at hne
        exact hne this.symm
      rw [upd_ne _ _ ne]; exact d5 l hl hne
    · rw [x1_ne _ _ e, x1_ne _ _ e, x1_ne _ _ e]
      obtain ⟨t1, t2, t3, t4, t5, t6, t7, t8⟩ := s3 i (by omega)
      refine ⟨t1, t2, t3, t4, t5, fun x hx hr => ?_, by rw [e13, upd_ne _ _ e]; exact t7, ?_⟩
      · unfold Rno at hr
        by_cases e' : i = d
        · rw [if_pos e', Bool.and_eq_true, ← e'] at hr
          exact t6 x hx hr.1
        · rw [if_neg e'] at hr; exact t6 x hx hr
      · rw [e14, upd_ne _ _ e, upd_if]
        by_cases e' : i = d
        · rw [if_pos e']
          exact mk_cong (fun x _ => by unfold Rno; rw [if_pos e'])
        · rw [if_neg e', t8]
          exact mk_cong (fun x _ => by unfold Rno; rw [if_neg e'])
  · obtain ⟨i, f, i1, i2, i3⟩ := s4 hx
    by_cases e : i = d ∧ f (T d) = q
    · obtain ⟨rfl, eq⟩ := e
      obtain ⟨f', g1, g2⟩ := hG ⟨f, by rw [← eq]; exact GO_add i2 d2⟩
      refine ⟨i + 1, f', Nat.le_refl _, ?_, ?_⟩
      · rw [x1_at]; exact g1
      · rw [x1_at, x1_at]; exact g2
    · refine ⟨i, f, by omega, ?_, ?_⟩
      · rw [x1_ne _ _ (by omega)]; exact i2
      · rw [x1_ne _ _ (by omega), x1_ne _ _ (by omega)]
        unfold Rno
        by_cases e' : i = d
        · subst e'
          rw [if_pos rfl, i3, Bool.true_and]
          cases z : anyb (R i) (f (T i)) with
          | true => rfl
          | false =>
            exfalso
            have ge := anyb_no.mp z
            have eq : f (T i) = q := by
              rcases Nat.lt_trichotomy (f (T i)) q with y | y | y
              · rw [h0 _ y] at i3; cases i3
              · exact y
              · rw [ge q y] at h1; cases h1
            exact e ⟨rfl, eq⟩
        · rw [if_neg e']; exact i3
  · rw [x1_at]
    have := unp_upd d1 d2 d3 hq
    omega
theorem push_ms {R : Nat → Nat → Bool} {R' : Nat → Bool} {d q : Nat} (hd : d + 1 ≤ 19) (hq : q < 9) (h1 : R d q = true) (h0 : ∀ j, j < q → R d j = false) : msr (ext1 (Rno R d) (d + 1) R') (d + 1) < msr R d := by
  have lt := msr_no hq h1 h0
  have e : sumN (fun i => fb_ct (ext1 (Rno R d) (d + 1) R' i) 9 * 11 ^ (20 - i)) (d + 1) = sumN (fun i => fb_ct (Rno R d i) 9 * 11 ^ (20 - i)) (d + 1) := sumN_cong (fun i hi => by
    rw [x1_ne _ _ (show ¬ i = d + 1 by omega)])
  unfold msr at lt ⊢
  have g : sumN (fun i => fb_ct (ext1 (Rno R d) (d + 1) R' i) 9 * 11 ^ (20 - i)) (d + 1 + 1) = sumN (fun i => fb_ct (Rno R d i) 9 * 11 ^ (20 - i)) (d + 1) + fb_ct R' 9 * 11 ^ (20 - (d + 1)) := by
    show sumN _ (d + 1) + _ = _
    rw [e]
    dsimp only
    rw [x1_at]
  rw [g]
  have r9 := fb_ct_le R' 9
  have p : 11 ^ (20 - d) = 11 ^ (20 - (d + 1)) * 11 := by
    rw [← Nat.pow_succ]
    congr 1
    omega
  have pos : 0 < 11 ^ (20 - (d + 1)) := Nat.pow_pos (by omega)
  have mu := Nat.mul_le_mul_right (11 ^ (20 - (d + 1))) r9
  rw [p] at lt
  omega
end
