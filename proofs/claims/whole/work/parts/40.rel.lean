/-! the relation of the two states -/
def okc (m : Nat) (a b : Nat → Nat) (L : Nat → Nat → Bool) (S : Nat → Bool) (f : Nat → Nat) : Prop := (∀ k, k < m → S k = true → L k (f k) = true) ∧ ∀ i j, i < m → j < m → S i = true → S j = true → mts a b i j = true → f i ≠ f j
def exc (m : Nat) (a b : Nat → Nat) (L : Nat → Nat → Bool) (S : Nat → Bool) : Prop := ∃ f, okc m a b L S f
def fstc (m : Nat) (a b : Nat → Nat) (L : Nat → Nat → Bool) (S : Nat → Bool) (f : Nat → Nat) : Prop := okc m a b L S f ∧ ∀ g, okc m a b L S g → ∀ k, k < m → S k = true → (∀ j, j < k → S j = true → g j = f j) → f k ≤ g k
def Lk (k : Nat) : Nat → Nat → Bool := fun _ q => decide (q < k)
def Ll (ls : Nat → Int32) : Nat → Nat → Bool := fun l q => decide (q < 9) && bt (ls l) q
def allS : Nat → Bool := fun _ => true
def butS (k : Nat) : Nat → Bool := fun j => !decide (j = k)
noncomputable def ixS (n m : Nat) (a b : Nat → Nat) (S : Nat → Bool) : Nat := @ite _ (exc m a b (Lk (DgS n m a b S)) S) (Classical.propDecidable _) (DgS n m a b S) (DgS n m a b S + 1)
noncomputable def crit (n m : Nat) (a b : Nat → Nat) (k : Nat) : Bool := decide (ixS n m a b (butS k) < ixS n m a b allS)
def Ans (m : Nat) (a b : Nat → Nat) (L : Nat → Nat → Bool) (σ : kk_St) : Prop := (σ.1 7 5 = 0 ∧ ¬ exc m a b L allS) ∨ (σ.1 7 5 = 1 ∧ ∃ f, fstc m a b L allS f ∧ ∀ l, l < m → σ.1 22 l = nI (f l))
def CI (n m : Nat) (a b : Nat → Nat) (ls : Nat → Int32) (σ : kk_St) : Prop := (σ.1 7 6 = -1 ∨ σ.1 7 6 = nI (ixS n m a b allS)) ∧ (σ.1 7 7 = -1 ∨ σ.1 7 7 = mk (crit n m a b) m) ∧ (σ.1 7 4 = -1 ∨ (∃ k, k ≤ 9 ∧ σ.1 7 4 = nI k ∧ Ans m a b (Lk k) σ) ∨ (σ.1 7 4 = 10 ∧ Ans m a b (Ll ls) σ))
def Rest (n m : Nat) (a b : Nat → Nat) (kp ls : Nat → Int32) (kf gf : Bool) (σ1 σ2 : kk_St) : Prop :=
  (σ1.1 0 12 = bI kf ∧ σ2.1 0 8 = bI kf ∧ (kf = true → Pr n m a b kp ∧ (∀ k, k < m → σ1.1 31 k = kp k ∧ σ2.1 5 k = kp k) ∧ ∀ k, m ≤ k → k < 20 → σ1.1 31 k = -1)) ∧
  (σ1.1 4 4 = bI gf ∧ σ2.1 0 12 = bI gf ∧ (gf = true → ∀ i, i < 5 → σ1.1 19 i = σ2.1 7 i)) ∧
  (∀ k, k < m → σ1.1 32 k = ls k ∧ σ2.1 4 k = ls k ∧ ∃ x, x < 512 ∧ ls k = nI x) ∧ CI n m a b ls σ1
def Rel (σ1 σ2 : kk_St) : Prop := ∃ (n m : Nat) (a b : Nat → Nat) (c kp ls : Nat → Int32) (kf gf : Bool), Wf n m a b ∧ Pr n m a b c ∧ RM n m a b c σ2 ∧ RN n m a b σ1 ∧ RK m c σ1 ∧ Rest n m a b kp ls kf gf σ1 σ2
theorem Pr9 {n m : Nat} {a b : Nat → Nat} {c : Nat → Int32} (W : Wf n m a b) (h : Pr n m a b c) : ∀ k, k < m → c k = -1 ∨ ∃ q, q < 9 ∧ c k = nI q := fun k hk => by
  have := Dg_le8 W
  rcases h.1 k hk with h | ⟨q, hq, h⟩
  · exact Or.inl h
  · exact Or.inr ⟨q, by omega, h⟩
theorem CI_fr {n m : Nat} {a b : Nat → Nat} {ls : Nat → Int32} {σ σ' : kk_St} (h : CI n m a b ls σ) (h7 : σ'.1 7 = σ.1 7) (h22 : σ'.1 22 = σ.1 22) : CI n m a b ls σ' := by
  unfold CI Ans
  rw [h7, h22]
  exact h
theorem Rest_fr {n m : Nat} {a b : Nat → Nat} {kp ls : Nat → Int32} {kf gf : Bool} {σ1 σ2 σ1' σ2' : kk_St} {L1 L2 F2 : List Nat} (h : Rest n m a b kp ls kf gf σ1 σ2) (f1 : frL L1 σ1 σ1') (f2 : frF L2 F2 σ2 σ2') (h1 : 0 ∉ L1 ∧ 4 ∉ L1 ∧ 7 ∉ L1 ∧ 19 ∉ L1 ∧ 22 ∉ L1 ∧ 31 ∉ L1 ∧ 32 ∉ L1) (h2 : 4 ∉ L2 ∧ 5 ∉ L2 ∧ 7 ∉ L2) (h3 : 8 ∉ F2 ∧ 12 ∉ F2) : Rest n m a b kp ls kf gf σ1' σ2' := by
  obtain ⟨a0, a4, a7, a19, a22, a31, a32⟩ := h1
  obtain ⟨b4, b5, b7⟩ := h2
  obtain ⟨r1, r2, r3, r4⟩ := h
  refine ⟨?_, ?_, ?_, CI_fr r4 (f1.1 7 a7) (f1.1 22 a22)⟩
  · rw [f1.1 0 a0, f1.1 31 a31, f2.2.1 8 h3.1, f2.1 5 b5 (by decide)]; exact r1
  · rw [f1.1 4 a4, f1.1 19 a19, f2.2.1 12 h3.2, f2.1 7 b7 (by decide)]; exact r2
  · rw [f1.1 32 a32, f2.1 4 b4 (by decide)]; exact r3
theorem Pr_cong {n m : Nat} {a b : Nat → Nat} {c c' : Nat → Int32} (P : Pr n m a b c) (h : ∀ k, k < m → c k = c' k) : Pr n m a b c' := by
  refine ⟨fun k hk => by rw [← h k hk]; exact P.1 k hk, fun i j hi hj hm he => ?_⟩
  rw [← h i hi]
  exact P.2 i j hi hj hm (by rw [h i hi, h j hj]; exact he)
theorem RM_col {n m : Nat} {a b : Nat → Nat} {c c' : Nat → Int32} {σ σ' : kk_St} {L F : List Nat} (R : RM n m a b c σ) (h : frF L F σ σ') (hL : 1 ∉ L ∧ 2 ∉ L) (hF : 1 ∉ F ∧ 2 ∉ F) (hc : ∀ k, k < m → σ'.1 3 k = c' k) : RM n m a b c' σ' := by
  refine ⟨?_, ?_, ?_, ?_, hc⟩
  · rw [h.2.1 1 hF.1]; exact R.1
  · rw [h.2.1 2 hF.2]; exact R.2.1
  · rw [h.1 1 hL.1 (by decide)]; exact R.2.2.1
  · rw [h.1 2 hL.2 (by decide)]; exact R.2.2.2.1
/-- a colouring with one line bared, or given a free colour, is one -/
theorem Pr_upd {n m : Nat} {a b : Nat → Nat} {c : Nat → Int32} (P : Pr n m a b c) {k : Nat} {v : Int32} (hv : v = -1 ∨ ∃ q, q ≤ Dg n m a b ∧ v = nI q) (hf : ∀ j, j < m → mts a b k j = true → c j = v → v = -1) : Pr n m a b (upd c k v) := by
  refine ⟨fun j hj => ?_, fun i j hi hj hm he => ?_⟩
  · rw [upd_if]
    by_cases h : j = k
    · rw [if_pos h]; exact hv
    · rw [if_neg h]; exact P.1 j hj
  · have hne := (mts_iff.mp hm).1
    rw [upd_if] at he ⊢
    rw [upd_if] at he
    by_cases h : i = k
    · subst h
      rw [if_pos rfl] at he ⊢
      rw [if_neg (Ne.symm hne)] at he
      exact hf j hj hm he.symm
    · rw [if_neg h] at he ⊢
      by_cases h2 : j = k
      · subst h2
        rw [if_pos rfl] at he
        rw [he]
        exact hf i hi (by rw [mts_comm]; exact hm) he
      · rw [if_neg h2] at he
        exact P.2 i j hi hj hm he
/-- a colour that no line at either post has stands against nothing -/
theorem free_both {m : Nat} {a b : Nat → Nat} {c : Nat → Int32} {k : Nat} {v : Int32} (h1 : usd m a b c (a k) v = false) (h2 : usd m a b c (b k) v = false) : ∀ j, j < m → mts a b k j = true → c j ≠ v := by
  intro j hj hm he
  obtain ⟨_, p, p1, p2⟩ := mts_iff.mp hm
  have : ∀ q, inc a b j q = true → usd m a b c q v = false → False := fun q hq hu => by
    have := anyb_no.mp hu j hj
    rw [hq, decide_eq_true he] at this
    cases this
  rcases inc_iff.mp p1 with z | z
  · exact this (a k) (by rw [z]; exact p2) h1
  · exact this (b k) (by rw [z]; exact p2) h2
