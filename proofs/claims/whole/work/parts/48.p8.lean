/-! pair: longest -/
/-- the greatest of the first k values, and the first place that has it -/
def tp (s : Nat → Nat) : Nat → Nat × Nat
  | 0 => (0, 0)
  | k + 1 => if (tp s k).1 < s k then (s k, k) else tp s k
theorem tp_ge (s : Nat → Nat) : ∀ {k l : Nat}, l < k → s l ≤ (tp s k).1
  | 0, l, h => absurd h (Nat.not_lt_zero _)
  | k + 1, l, h => by
    rw [tp]
    by_cases hlt : (tp s k).1 < s k
    · rw [if_pos hlt]
      by_cases hl : l = k
      · rw [hl]; exact Nat.le_refl _
      · have := tp_ge s (k := k) (l := l) (by omega)
        show s l ≤ s k
        omega
    · rw [if_neg hlt]
      by_cases hl : l = k
      · rw [hl]; omega
      · exact tp_ge s (by omega)
theorem tp_at (s : Nat → Nat) : ∀ {k : Nat}, 0 < (tp s k).1 → (tp s k).2 < k ∧ s (tp s k).2 = (tp s k).1 ∧ ∀ l, l < (tp s k).2 → s l < (tp s k).1
  | 0, h => absurd h (Nat.lt_irrefl _)
  | k + 1, h => by
    rw [tp] at h ⊢
    by_cases hlt : (tp s k).1 < s k
    · rw [if_pos hlt]
      refine ⟨Nat.lt_succ_self _, rfl, fun l hl => ?_⟩
      have := tp_ge s (show l < k from hl)
      show s l < s k
      omega
    · rw [if_neg hlt] at h ⊢
      obtain ⟨h1, h2, h3⟩ := tp_at s h
      exact ⟨by omega, h2, h3⟩
/-- a fold over lo .. k-1 -/
def itl {T : Type} (f : Nat → T → T) (lo : Nat) : Nat → T → T
  | 0, t => t
  | k + 1, t => if lo ≤ k then f k (itl f lo k t) else itl f lo k t
theorem itl_lo {T : Type} (f : Nat → T → T) (lo : Nat) : ∀ (k : Nat) (t : T), k ≤ lo → itl f lo k t = t
  | 0, _, _ => rfl
  | k + 1, t, h => by rw [itl, if_neg (by omega), itl_lo f lo k t (by omega)]
theorem itl_s {T : Type} (f : Nat → T → T) {lo k : Nat} (t : T) (h : lo ≤ k) : itl f lo (k + 1) t = f k (itl f lo k t) := by rw [itl, if_pos h]
abbrev LT := Nat × Nat × Nat × Nat
noncomputable def plw (c : Nat → Int32) (i j : Nat) : Nat → Bool := fun k => decide (c k = nI i) || decide (c k = nI j)
noncomputable def lsz (m : Nat) (a b : Nat → Nat) (P : Nat → Bool) (k : Nat) : Nat := if P k then fb_ct (ch m a b P k) m else 0
noncomputable def lstp (m : Nat) (a b : Nat → Nat) (c : Nat → Int32) (i j : Nat) (t : LT) : LT := if t.1 < (tp (lsz m a b (plw c i j)) m).1 then ((tp (lsz m a b (plw c i j)) m).1, i, j, (tp (lsz m a b (plw c i j)) m).2) else t
noncomputable def lrow (m : Nat) (a b : Nat → Nat) (c : Nat → Int32) (D i : Nat) (t : LT) : LT := itl (fun j => lstp m a b c i j) (i + 1) (D + 1) t
noncomputable def lall (m : Nat) (a b : Nat → Nat) (c : Nat → Int32) (D k : Nat) : LT := itl (lrow m a b c D) 0 k (0, 0, 0, 0)
/-- what holds of a best one -/
def Lok (m : Nat) (a b : Nat → Nat) (c : Nat → Int32) (t : LT) : Prop := t.2.1 < 9 ∧ t.2.2.1 < 9 ∧ t.1 ≤ m ∧ (0 < t.1 → t.2.2.2 < m ∧ plw c t.2.1 t.2.2.1 t.2.2.2 = true ∧ fb_ct (ch m a b (plw c t.2.1 t.2.2.1) t.2.2.2) m = t.1 ∧ ∀ l, l < t.2.2.2 → ch m a b (plw c t.2.1 t.2.2.1) t.2.2.2 l = false)
noncomputable def lmk (m : Nat) (a b : Nat → Nat) (c : Nat → Int32) (t : LT) : Int32 := mk (fun k => decide (0 < t.1) && ch m a b (plw c t.2.1 t.2.2.1) t.2.2.2 k) m
section
variable {n m : Nat} {a b : Nat → Nat} {c : Nat → Int32} {σ : kk_St}
theorem lsz_ch {P : Nat → Bool} {k l : Nat} (h : ch m a b P k l = true) : lsz m a b P l = lsz m a b P k := by
  unfold lsz
  rw [rch_pool h, rch_pool (ch_sy h), if_pos rfl, if_pos rfl]
  exact fb_ct_cong (fun j _ => (ch_same h j).symm)
theorem lsz_pool {P : Nat → Bool} {k : Nat} (h : 0 < lsz m a b P k) : P k = true := by
  unfold lsz at h
  cases hp : P k with
  | true => rfl
  | false => rw [hp] at h; exact absurd h (by simp)
theorem lsz_le {P : Nat → Bool} {k : Nat} : lsz m a b P k ≤ m := by
  unfold lsz
  have := fb_ct_le (ch m a b P k) m
  split <;> omega
theorem lsz_low {P : Nat → Bool} {k : Nat} (h : ∀ l, l < k → lsz m a b P l < lsz m a b P k) : ∀ l, l < k → ch m a b P k l = false := by
  intro l hl
  cases hc : ch m a b P k l with
  | false => rfl
  | true =>
    have h1 := h l hl
    rw [lsz_ch hc] at h1
    omega
theorem Lok_stp {t : LT} (h : Lok m a b c t) {i j : Nat} (hi : i < 9) (hj : j < 9) : Lok m a b c (lstp m a b c i j t) := by
  unfold lstp
  by_cases hlt : t.1 < (tp (lsz m a b (plw c i j)) m).1
  · rw [if_pos hlt]
    obtain ⟨h1, h2, h3⟩ := tp_at (lsz m a b (plw c i j)) (k := m) (by omega)
    have hp := lsz_pool (m := m) (a := a) (b := b) (P := plw c i j) (k := (tp (lsz m a b (plw c i j)) m).2) (by omega)
    have h2' : fb_ct (ch m a b (plw c i j) (tp (lsz m a b (plw c i j)) m).2) m = (tp (lsz m a b (plw c i j)) m).1 := by
      rw [← h2, lsz, if_pos hp]
    refine ⟨hi, hj, ?_, fun _ => ⟨h1, hp, h2', lsz_low (fun l hl => ?_)⟩⟩
    · show (tp (lsz m a b (plw c i j)) m).1 ≤ m
      rw [← h2]; exact lsz_le
    · show _ < lsz m a b (plw c i j) (tp (lsz m a b (plw c i j)) m).2
      rw [h2]; exact h3 l hl
  · rw [if_neg hlt]; exact h
theorem Lok_itl {f : Nat → LT → LT} {D lo : Nat} (hf : ∀ j t, j < D → Lok m a b c t → Lok m a b c (f j t)) : ∀ {k : Nat} {t : LT}, k ≤ D → Lok m a b c t → Lok m a b c (itl f lo k t)
  | 0, _, _, h => h
  | k + 1, t, hk, h => by
    rw [itl]
    by_cases hlo : lo ≤ k
    · rw [if_pos hlo]; exact hf k _ (by omega) (Lok_itl hf (by omega) h)
    · rw [if_neg hlo]; exact Lok_itl hf (by omega) h
theorem Lok_row {t : LT} {D i k : Nat} (h : Lok m a b c t) (hi : i < 9) (hk : k ≤ D + 1) (hD : D ≤ 8) : Lok m a b c (itl (fun j => lstp m a b c i j) (i + 1) k t) := Lok_itl (D := 9) (fun _ _ hj ht => Lok_stp ht hi hj) (by omega) h
theorem Lok_all {D k : Nat} (hk : k ≤ D + 1) (hD : D ≤ 8) : Lok m a b c (lall m a b c D k) := Lok_itl (D := 9) (fun _ _ hj ht => Lok_row ht hj (Nat.le_refl _) hD) (by omega) ⟨by decide, by decide, by simp, fun h => absurd h (Nat.lt_irrefl _)⟩
theorem lmk_ct {t : LT} (h : Lok m a b c t) : fb_ct (fun k => decide (0 < t.1) && ch m a b (plw c t.2.1 t.2.2.1) t.2.2.2 k) m = t.1 := by
  by_cases h0 : 0 < t.1
  · rw [← (h.2.2.2 h0).2.2.1]
    exact fb_ct_cong (fun k _ => by rw [(h.2.2.2 h0).2.2.1, decide_eq_true h0, Bool.true_and])
  · rw [fb_ct_zero.mpr (fun k _ => by rw [decide_eq_false h0, Bool.false_and])]
    omega
theorem sc_longestChain (N : RN n m a b σ) (K : RK m c σ) (hm : m ≤ 20) {o w : Nat} (ho : o < 9) (hw : w < 9) {Q : Int32 → Prop} (h : Q (lmk m a b c ((tp (lsz m a b (plw c o w)) m).1, o, w, (tp (lsz m a b (plw c o w)) m).2))) : f_X2_longestChain (nI o) (nI w) σ Q := by
  unfold f_X2_longestChain
  refine ⟨vp_lt (by omega) (by omega), vp_lt (by omega) (by omega), ?_⟩
  intro x ex
  rw [rd_nI (by omega), rd_nI (by omega), K.2 o ho, K.2 w hw, mk_or] at ex
  unfold lmk at h
  dsimp only at h
  have ex : x = mk (plw c o w) m := ex
  generalize plw c o w = P at *
  have ct : ∀ k, k ≤ m → fb_ct (fun j => decide (0 < (tp (lsz m a b P) k).1) && ch m a b P (tp (lsz m a b P) k).2 j) m = (tp (lsz m a b P) k).1 := by
    intro k hk
    by_cases h0 : 0 < (tp (lsz m a b P) k).1
    · obtain ⟨_, h2, _⟩ := tp_at _ h0
      have hp := lsz_pool (m := m) (a := a) (b := b) (P := P) (k := (tp (lsz m a b P) k).2) (by omega)
      have h3 : lsz m a b P (tp (lsz m a b P) k).2 = fb_ct (ch m a b P (tp (lsz m a b P) k).2) m := by
        rw [lsz, if_pos hp]
      rw [← h2, h3]
      exact fb_ct_cong (fun j _ => by rw [← h3, h2, decide_eq_true h0, Bool.true_and])
    · rw [fb_ct_zero.mpr (fun j _ => by rw [decide_eq_false h0, Bool.false_and])]
      omega
  refine lf_3_2 m (by omega) (fun k r t => r = mk (fun j => P j && !chD m a b P k j) m ∧ t = mk (fun j => decide (0 < (tp (lsz m a b P) k).1) && ch m a b P (tp (lsz m a b P) k).2 j) m) (k0 := 0) (by omega) ⟨?_, ?_⟩ ?_ ?_
  · rw [ex]
    exact mk_cong (fun k _ => by simp [chD, anyb])
  · exact ((mk_eq0 (by omega)).mpr (fun k _ => by simp [tp])).symm
  · rintro rec k r t hk ⟨rfl, rfl⟩ hrec
    refine br_f (by rw [N.2.1]; exact nI_ge hk (by omega)) ?_
    dsimp only [kk_j2]
    have e1 : bt (mk (fun j => P j && !chD m a b P k j) m) k = chH m a b P k := by
      rw [mk_bt _ _ (by omega)]; simp [hk, chH]
    refine ⟨fun z => ?_, fun z => ?_⟩
    · have z := (z_bit0 _ (by omega)).mp z
      rw [e1] at z
      have hle : ¬ (tp (lsz m a b P) k).1 < lsz m a b P k := by
        cases hp : P k with
        | false => unfold lsz; rw [hp]; simp
        | true =>
          unfold chH at z
          rw [hp, Bool.true_and, Bool.not_eq_false'] at z
          obtain ⟨l, hl, h2⟩ := anyb_iff.mp z
          rw [Bool.and_eq_true] at h2
          rw [lsz_ch h2.2]
          have := tp_ge (lsz m a b P) hl
          omega
      refine hrec _ _ ⟨mk_cong (fun j _ => by rw [chD_no z]), ?_⟩
      rw [tp, if_neg hle]
    · have z : chH m a b P k = true := by
        cases hz : chH m a b P k with
        | true => rfl
        | false => exact absurd ((z_bit0 _ (by omega)).mpr (by rw [e1]; exact hz)) z
      have hp : P k = true := by
        unfold chH at z
        rw [Bool.and_eq_true] at z
        exact z.1
      rw [mk_one hk (by omega), ex]
      refine sc_joined N hm ?_
      intro r' er
      rw [mk_andn] at er
      have er : r' = mk (fun j => P j && !chD m a b P (k + 1) j) m := by
        rw [er]
        refine mk_cong (fun j _ => ?_)
        rw [chD_yes z]
        show ((P j && !chD m a b P k j) && !ch m a b P k j) = _
        cases P j <;> cases chD m a b P k j <;> cases ch m a b P k j <;> rfl
      refine sp_bitCountM (by omega) ?_
      refine sp_bitCountM (by omega) ?_
      rw [ct k (by omega)]
      have hs : fb_ct (rch m a b P (fun j => decide (j = k))) m = lsz m a b P k := by unfold lsz; rw [if_pos hp]; rfl
      rw [hs]
      have l1 : lsz m a b P k ≤ m := lsz_le
      have l2 : (tp (lsz m a b P) k).1 ≤ m := by rw [← ct k (by omega)]; exact fb_ct_le _ _
      by_cases hlt : (tp (lsz m a b P) k).1 < lsz m a b P k
      · refine br_f (nI_ge hlt (by omega)) ?_
        refine hrec _ _ ⟨er, ?_⟩
        rw [tp, if_pos hlt]
        refine mk_cong (fun j _ => ?_)
        rw [decide_eq_true (show 0 < (lsz m a b P k, k).1 from by show 0 < lsz m a b P k; omega)]
        rfl
      · refine br_t (nI_le (by omega) (by omega)) ?_
        refine hrec _ _ ⟨er, ?_⟩
        rw [tp, if_neg hlt]
  · rintro rec r t ⟨rfl, rfl⟩
    exact br_t (by rw [N.2.1]; exact nI_le (Nat.le_refl _) (by omega)) h
end
