/-! pair: sets -/
def noB : Nat → Bool := fun _ => false
theorem mN_sub {f g : Nat → Bool} : ∀ {w : Nat}, (∀ j, j < w → f j = true → g j = true) → mN f w ≤ mN g w
  | 0, _ => Nat.le_refl _
  | w + 1, h => by
    have ih := mN_sub (f := f) (g := g) (w := w) (fun j hj => h j (by omega))
    have h2 := h w (by omega)
    show mN f w + _ ≤ mN g w + _
    cases z : f w with
    | false => simp; omega
    | true => rw [h2 z]; simp; omega
theorem mN_strict {f g : Nat → Bool} {x : Nat} : ∀ {w : Nat}, (∀ j, j < w → f j = true → g j = true) → x < w → f x = false → g x = true → mN f w < mN g w
  | 0, _, hx, _, _ => absurd hx (Nat.not_lt_zero _)
  | w + 1, h, hx, h0, h1 => by
    show mN f w + _ < mN g w + _
    by_cases e : x = w
    · subst e
      have := mN_sub (f := f) (g := g) (w := x) (fun j hj => h j (by omega))
      have p : 0 < 2 ^ x := Nat.pow_pos (by omega)
      rw [h0, h1]
      simp
      omega
    · have ih := mN_strict (f := f) (g := g) (x := x) (w := w) (fun j hj => h j (by omega)) (by omega) h0 h1
      have h2 := h w (by omega)
      cases z : f w with
      | false => simp; omega
      | true => rw [h2 z]; simp; omega
theorem mN_self : ∀ {w N : Nat}, N < 2 ^ w → mN N.testBit w = N := by
  intro w N h
  refine Nat.eq_of_testBit_eq (fun i => ?_)
  rw [mN_bit]
  by_cases e : i < w
  · rw [decide_eq_true e, Bool.true_and]
  · rw [decide_eq_false e, Bool.false_and]
    exact (Nat.testBit_lt_two_pow (Nat.lt_of_lt_of_le h (Nat.pow_le_pow_right (by omega) (by omega)))).symm
def wo (a b : Nat → Nat) (k X : Nat) : Nat := mN (fun j => (X.testBit j && !decide (j = a k)) && !decide (j = b k)) 9
def BR (a b : Nat → Nat) (R : Nat) : Nat → Bool := fun l => !(R.testBit (a l) && R.testBit (b l))
def g5 (f w : Nat → Nat) : Nat := f 0 * w 0 + f 1 * w 1 + f 2 * w 2 + f 3 * w 3 + f 4 * w 4
section
variable {n m : Nat} {a b : Nat → Nat} {σ : kk_St} {c : Nat → Int32}
theorem sc_gatherAll (N : RN n m a b σ) (W : Wf n m a b) {Q : kk_St → Prop} (h : ∀ τ, frL [23, 24] σ τ → StG (fun z => Mc m a b m noB z) (fun z Y => Ec m a b m noB noB z Y) τ → Q τ) : f_X0_gatherAll σ Q := by
  have hm := W.2.2.1
  have p20 : 2 ^ m ≤ 2 ^ 20 := Nat.pow_le_pow_right (by omega) hm
  unfold f_X0_gatherAll
  refine sc_fill (by omega) (fun τ h1 h2 fr => ?_)
  have e0 : (0 : Int32) = mk noB m := (mk_0 m).symm
  have H : StG (fun _ => 0) (fun _ _ => False) τ := fun z hz => ⟨by rw [h1 z (by omega)]; rfl, ⟨fun _ _ h => h, fun _ => rfl⟩, fun h => absurd h (Nat.lt_irrefl _)⟩
  have g := sc_gather W 30 0 noB noB 0 τ _ _ Q (RN_fr N fr (by simp)) H (by omega) (Nat.zero_le _) (by omega) (fun z _ _ => by
    have := Mc_le (m := m) (a := a) (b := b) (m - 0) noB (z - 0)
    rw [Nat.sub_zero] at this ⊢
    omega) (fun _ _ _ h => h.elim) (fun τ' f' H' => h τ' (frL_tr (frL_mono fr (by simp)) f') (StG_cong H' (fun z _ => by
      rw [if_pos (Nat.zero_le _), Nat.sub_zero, Nat.sub_zero, Nat.zero_add]) (fun z Y _ => by
      rw [Nat.sub_zero, Nat.sub_zero]
      exact ⟨fun y => by
        rcases y with y | y
        · exact y.elim
        · exact y.2, fun y => Or.inr ⟨Nat.zero_le _, y⟩⟩)))
  have e : nI 0 = (0 : Int32) := rfl
  rw [e, ← e0] at g
  exact g
theorem sm_areThere (M : RM n m a b c σ) (W : Wf n m a b) {k X : Nat} (hk : k < m) {Q : Int32 → Prop} (h : Q (bI (X.testBit (a k) && X.testBit (b k)))) : f_X11_areThere (nI X) (nI k) σ Q := by
  have hm := W.2.2.1
  have hn := W.2.1
  have hw := W.2.2.2.1 k hk
  unfold f_X11_areThere
  refine ⟨vp_lt (by omega) (by omega), ?_⟩
  rw [rd_nI (by omega), rd_nI (by omega), M.2.2.1 k hk, M.2.2.2.1 k hk]
  refine sp_has (by omega) ?_
  rw [bt_nI _ (by omega)]
  dsimp only [kk_j1, kk_j0]
  cases z : X.testBit (a k) with
  | false => rw [z] at h; exact br_t rfl ⟨Or.inl rfl, h⟩
  | true =>
    refine br_f (by decide) ⟨vp_lt (by omega) (by omega), sp_has (by omega) ?_⟩
    rw [bt_nI _ (by omega)]
    rw [z, Bool.true_and] at h
    cases y : X.testBit (b k) with
    | false => rw [y] at h; exact br_t rfl ⟨Or.inl rfl, h⟩
    | true => rw [y] at h; exact br_f (by decide) ⟨Or.inr rfl, h⟩
theorem sm_without (M : RM n m a b c σ) (W : Wf n m a b) {k X : Nat} (hk : k < m) (hX : X < 512) {Q : Int32 → Prop} (h : Q (nI (wo a b k X))) : f_X11_without (nI X) (nI k) σ Q := by
  have hm := W.2.2.1
  have hn := W.2.1
  have hw := W.2.2.2.1 k hk
  unfold f_X11_without
  refine ⟨vp_lt (by omega) (by omega), vp_lt (by omega) (by omega), ?_⟩
  rw [rd_nI (by omega), rd_nI (by omega), M.2.2.1 k hk, M.2.2.2.1 k hk]
  have e : nI X = mk X.testBit 9 := by
    show nI X = nI (mN X.testBit 9)
    rw [mN_self (w := 9) hX]
  rw [e, mk_clr (by omega) (by omega), mk_clr (by omega) (by omega)]
  exact h
theorem wo_bit {k X j : Nat} : (wo a b k X).testBit j = (decide (j < 9) && ((X.testBit j && !decide (j = a k)) && !decide (j = b k))) := mN_bit _ _ _
theorem wo_lt {k X : Nat} : wo a b k X < 512 := mN_lt _ 9
theorem wo_less (W : Wf n m a b) {k X : Nat} (hk : k < m) (hX : X < 512) (h : X.testBit (a k) = true) : wo a b k X < X := by
  have hw := W.2.2.2.1 k hk
  have hn := W.2.1
  have e : mN X.testBit 9 = X := mN_self (w := 9) hX
  have := mN_strict (f := fun j => (X.testBit j && !decide (j = a k)) && !decide (j = b k)) (g := X.testBit) (x := a k) (w := 9) (fun j _ hj => by
    simp only [Bool.and_eq_true] at hj
    exact hj.1.1) (by omega) (by simp) h
  rw [e] at this
  exact this
theorem Mc_cong : ∀ k {B B' : Nat → Bool} t, (∀ l, m - k ≤ l → l < m → B l = B' l) → k ≤ m → Mc m a b k B t = Mc m a b k B' t
  | 0, _, _, _, _, _ => rfl
  | k + 1, B, B', 0, h, hk => Mc_cong k 0 (fun l h1 h2 => h l (by omega) h2) (by omega)
  | k + 1, B, B', t + 1, h, hk => by
    show Mc m a b k B (t + 1) + (if B (m - 1 - k) then 0 else Mc m a b k (bs a b B (m - 1 - k)) t) = Mc m a b k B' (t + 1) + (if B' (m - 1 - k) then 0 else Mc m a b k (bs a b B' (m - 1 - k)) t)
    rw [Mc_cong k (t + 1) (fun l h1 h2 => h l (by omega) h2) (by omega), h (m - 1 - k) (by omega) (by omega), Mc_cong k (B := bs a b B (m - 1 - k)) (B' := bs a b B' (m - 1 - k)) t (fun l h1 h2 => by
      unfold bs
      rw [h l (by omega) h2]) (by omega)]
/-- what a place of the row counts for -/
def wk (m : Nat) (a b : Nat → Nat) (z k R s : Nat) : Nat := if s ≤ z then Mc m a b (m - k) (BR a b R) (z - s) else 0
theorem wk_no {z k R s : Nat} (hk : k < m) (h : BR a b R k = true) : wk m a b z k R s = wk m a b z (k + 1) R s := by
  unfold wk
  by_cases e : s ≤ z
  · rw [if_pos e, if_pos e]
    obtain ⟨q, hq⟩ : ∃ q, m - k = q + 1 := ⟨m - k - 1, by omega⟩
    rw [hq, show m - (k + 1) = q by omega]
    cases z - s with
    | zero => rfl
    | succ t =>
      show Mc m a b q (BR a b R) (t + 1) + (if BR a b R (m - 1 - q) then 0 else _) = _
      rw [show m - 1 - q = k by omega, h, if_pos rfl]
      rfl
  · rw [if_neg e, if_neg e]
theorem wk_yes (W : Wf n m a b) {z k R s : Nat} (hk : k < m) (h : BR a b R k = false) : wk m a b z k R s = wk m a b z (k + 1) R s + wk m a b z (k + 1) (wo a b k R) (s + 1) := by
  have hw := W.2.2.2.1 k hk
  have hn := W.2.1
  unfold wk
  obtain ⟨q, hq⟩ : ∃ q, m - k = q + 1 := ⟨m - k - 1, by omega⟩
  rw [hq, show m - (k + 1) = q by omega]
  rcases Nat.lt_trichotomy s z with e | e | e
  · obtain ⟨t, ht⟩ : ∃ t, z - s = t + 1 := ⟨z - s - 1, by omega⟩
    rw [if_pos (by omega), if_pos (by omega), if_pos (by omega), ht, show z - (s + 1) = t by omega]
    show Mc m a b q (BR a b R) (t + 1) + (if BR a b R (m - 1 - q) then 0 else Mc m a b q (bs a b (BR a b R) (m - 1 - q)) t) = _
    rw [show m - 1 - q = k by omega, h]
    simp only [Bool.false_eq_true, if_false]
    congr 1
    refine Mc_cong q t (fun l h1 h2 => ?_) (by omega)
    have hl := W.2.2.2.1 l h2
    unfold bs BR
    rw [wo_bit, wo_bit, decide_eq_true (show a l < 9 by omega), decide_eq_true (show b l < 9 by omega)]
    have mt : mts a b k l = (decide (a l = a k) || decide (a l = b k) || decide (b l = a k) || decide (b l = b k)) := by
      unfold mts inc
      rw [decide_eq_false (show ¬ k = l by omega)]
      simp only [Bool.not_false, Bool.true_and, eq_comm (a := a k), eq_comm (a := b k), Bool.or_assoc]
    rw [mt]
    cases R.testBit (a l) <;> cases R.testBit (b l) <;> cases decide (a l = a k) <;> cases decide (a l = b k) <;> cases decide (b l = a k) <;> cases decide (b l = b k) <;> rfl
  · rw [if_pos (by omega), if_pos (by omega), if_neg (by omega), e, Nat.sub_self, Mc_0, Mc_0]
  · rw [if_neg (by omega), if_neg (by omega), if_neg (by omega)]
end
