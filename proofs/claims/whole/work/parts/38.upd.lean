/-! changes of the colouring -/
/-- nothing but the cells of L has changed -/
def frL (L : List Nat) (σ σ' : kk_St) : Prop := (∀ q, q ∉ L → σ'.1 q = σ.1 q) ∧ σ'.2 = σ.2
theorem frL_rf {L : List Nat} {σ : kk_St} : frL L σ σ := ⟨fun _ _ => rfl, rfl⟩
theorem frL_tr {L : List Nat} {σ τ ρ : kk_St} (h1 : frL L σ τ) (h2 : frL L τ ρ) : frL L σ ρ := ⟨fun q hq => (h2.1 q hq).trans (h1.1 q hq), h2.2.trans h1.2⟩
theorem frL_mono {L L' : List Nat} {σ τ : kk_St} (h : frL L σ τ) (hs : ∀ q, q ∈ L → q ∈ L') : frL L' σ τ := ⟨fun q hq => h.1 q (fun z => hq (hs q z)), h.2⟩
theorem wr_at (σ : kk_St) (q i : Nat) (x : Int32) : (kk_wr σ q i x).1 q = upd (σ.1 q) i x := if_pos rfl
theorem wr_ne (σ : kk_St) {q q' : Nat} (i : Nat) (x : Int32) (h : q' ≠ q) : (kk_wr σ q i x).1 q' = σ.1 q' := if_neg h
theorem frL_wr {L : List Nat} {σ : kk_St} {q i : Nat} {x : Int32} (h : q ∈ L) : frL L σ (kk_wr σ q i x) := ⟨fun q' hq => wr_ne σ i x (fun z => hq (by rw [z]; exact h)), rfl⟩
theorem upd_at (f : Nat → Int32) (k : Nat) (x : Int32) : upd f k x k = x := pk_us
theorem upd_ne (f : Nat → Int32) {k j : Nat} (x : Int32) (h : j ≠ k) : upd f k x j = f j := pk_un h
theorem upd_if (f : Nat → Int32) (k j : Nat) (x : Int32) : upd f k x j = if j = k then x else f j := rfl
theorem RN_fr {n m : Nat} {a b : Nat → Nat} {σ σ' : kk_St} {L : List Nat} (R : RN n m a b σ) (h : frL L σ σ') (hL : 1 ∉ L ∧ 11 ∉ L ∧ 12 ∉ L ∧ 13 ∉ L ∧ 14 ∉ L ∧ 15 ∉ L) : RN n m a b σ' := by
  obtain ⟨h1, h11, h12, h13, h14, h15⟩ := hL
  unfold RN
  rw [h.1 1 h1, h.1 11 h11, h.1 12 h12, h.1 13 h13, h.1 14 h14, h.1 15 h15]
  exact R
theorem RK_fr {m : Nat} {c : Nat → Int32} {σ σ' : kk_St} {L : List Nat} (K : RK m c σ) (h : frL L σ σ') (hL : 16 ∉ L ∧ 17 ∉ L) : RK m c σ' := by
  unfold RK
  rw [h.1 16 hL.1, h.1 17 hL.2]
  exact K
theorem RK_cong {m : Nat} {c c' : Nat → Int32} {σ : kk_St} (K : RK m c σ) (h : ∀ k, k < m → c k = c' k) : RK m c' σ := by
  refine ⟨fun k hk => ?_, fun q hq => ?_⟩
  · rw [K.1 k hk]
    by_cases hkm : k < m
    · rw [if_pos hkm, if_pos hkm, h k hkm]
    · rw [if_neg hkm, if_neg hkm]
  · rw [K.2 q hq]
    exact mk_cong (fun k hk => by rw [h k hk])
section
variable {n m : Nat} {a b : Nat → Nat} {c : Nat → Int32} {σ : kk_St}
/-- a line loses its colour -/
theorem sc_strip (K : RK m c σ) (hc : ∀ k, k < m → c k = -1 ∨ ∃ q, q < 9 ∧ c k = nI q) (hm : m ≤ 20) {k : Nat} (hk : k < m) {Q : kk_St → Prop} (h : ∀ σ', RK m (upd c k (-1)) σ' → frL [16, 17] σ σ' → Q σ') : f_X3_strip (nI k) σ Q := by
  unfold f_X3_strip
  refine ⟨vp_lt (by omega) (by omega), ?_⟩
  dsimp only [kk_j1]
  rw [rd_nI (by omega), K.1 k (by omega), if_pos hk]
  rcases hc k hk with h1 | ⟨q, hq, h1⟩
  · refine br_t h1 (h σ (RK_cong K (fun j hj => ?_)) frL_rf)
    rw [upd_if]
    split
    · rename_i e; rw [e]; exact h1
    · rfl
  · refine br_f (by rw [h1]; exact nI_ne_m1 (by omega)) ?_
    rw [h1]
    refine ⟨vp_lt hq (by omega), vp_lt hq (by omega), ?_⟩
    intro σ1 e1
    refine ⟨vp_lt (by omega) (by omega), ?_⟩
    intro σ2 e2
    rw [rd_nI (by omega), nI_clamp (by omega), K.2 q hq, mk_clr hk (by omega)] at e1
    rw [nI_clamp (by omega)] at e2
    subst e1
    subst e2
    refine h _ ⟨fun j hj => ?_, fun r hr => ?_⟩ (frL_tr (frL_wr (by simp)) (frL_wr (by simp)))
    · rw [wr_at, wr_ne _ _ _ (by decide), upd_if]
      by_cases hjk : j = k
      · subst hjk; rw [if_pos rfl, if_pos hk, upd_at]
      · rw [if_neg hjk, K.1 j hj, upd_ne _ _ hjk]
    · rw [wr_ne _ _ _ (by decide), wr_at, upd_if]
      by_cases hrq : r = q
      · subst hrq
        rw [if_pos rfl]
        refine mk_cong (fun j hj => ?_)
        by_cases hjk : j = k
        · subst hjk
          rw [upd_at]
          simp
          exact fun z => nI_ne_m1 (by omega) z.symm
        · rw [upd_ne _ _ hjk]; simp [hjk]
      · rw [if_neg hrq, K.2 r hr]
        refine mk_cong (fun j hj => ?_)
        by_cases hjk : j = k
        · subst hjk
          rw [upd_at, h1]
          have e1 : ¬ nI q = nI r := by rw [nI_ne (by omega) (by omega)]; omega
          have e2 : ¬ (-1 : Int32) = nI r := fun z => nI_ne_m1 (by omega) z.symm
          simp [e1, e2]
        · rw [upd_ne _ _ hjk]
/-- a line gets a colour -/
theorem sc_give (K : RK m c σ) (hc : ∀ k, k < m → c k = -1 ∨ ∃ q, q < 9 ∧ c k = nI q) (hm : m ≤ 20) {k q : Nat} (hk : k < m) (hq : q < 9) {Q : kk_St → Prop} (h : ∀ σ', RK m (upd c k (nI q)) σ' → frL [16, 17] σ σ' → Q σ') : f_X3_give (nI k) (nI q) σ Q := by
  unfold f_X3_give
  refine sc_strip K hc hm hk (fun σ1 K1 F1 => ?_)
  refine ⟨vp_lt hq (by omega), vp_lt hq (by omega), ?_⟩
  intro σ2 e2
  refine ⟨vp_lt (by omega) (by omega), ?_⟩
  intro σ3 e3
  rw [rd_nI (by omega), nI_clamp (by omega), K1.2 q hq, mk_set hk (by omega)] at e2
  rw [nI_clamp (by omega)] at e3
  subst e2
  subst e3
  refine h _ ⟨fun j hj => ?_, fun r hr => ?_⟩ (frL_tr F1 (frL_tr (frL_wr (by simp)) (frL_wr (by simp))))
  · rw [wr_at, wr_ne _ _ _ (by decide), upd_if]
    by_cases hjk : j = k
    · subst hjk; rw [if_pos rfl, if_pos hk, upd_at]
    · rw [if_neg hjk, K1.1 j hj, upd_ne _ _ hjk, upd_ne _ _ hjk]
  · rw [wr_ne _ _ _ (by decide), wr_at, upd_if]
    by_cases hrq : r = q
    · subst hrq
      rw [if_pos rfl]
      refine mk_cong (fun j hj => ?_)
      by_cases hjk : j = k
      · subst hjk; rw [upd_at, upd_at]; simp
      · rw [upd_ne _ _ hjk, upd_ne _ _ hjk]; simp [hjk]
    · rw [if_neg hrq, K1.2 r hr]
      refine mk_cong (fun j hj => ?_)
      by_cases hjk : j = k
      · subst hjk
        rw [upd_at, upd_at]
        have e1 : ¬ nI q = nI r := by rw [nI_ne (by omega) (by omega)]; omega
        have e2 : ¬ (-1 : Int32) = nI r := fun z => nI_ne_m1 (by omega) z.symm
        simp [e1, e2]
      · rw [upd_ne _ _ hjk, upd_ne _ _ hjk]
end
/-- colours o and w exchanged on the lines of S -/
def flp (c : Nat → Int32) (S : Nat → Bool) (o w : Nat) : Nat → Int32 := fun k => if S k then (if c k = nI o then nI w else nI o) else c k
section
variable {n m : Nat} {a b : Nat → Nat} {c : Nat → Int32} {σ : kk_St}
theorem sc_flip (R : RN n m a b σ) (K : RK m c σ) (hm : m ≤ 20) {S : Nat → Bool} {o w : Nat} (ho : o < 9) (hw : w < 9) (how : o ≠ w) (hS : ∀ k, k < m → S k = true → c k = nI o ∨ c k = nI w) {Q : kk_St → Prop} (h : ∀ σ', RK m (flp c S o w) σ' → frL [16, 17] σ σ' → Q σ') : f_X3_flip (mk S m) (nI o) (nI w) σ Q := by
  unfold f_X3_flip
  refine ⟨vp_lt ho (by omega), vp_lt ho (by omega), ?_⟩
  intro σ1 e1
  refine ⟨vp_lt hw (by omega), vp_lt hw (by omega), ?_⟩
  intro σ2 e2
  rw [rd_nI (by omega), nI_clamp (by omega), K.2 o ho, mk_xor] at e1
  have r1 : σ1.1 17 w = mk (fun k => decide (c k = nI w)) m := by
    rw [e1, wr_at, upd_ne _ _ (Ne.symm how), K.2 w hw]
  rw [rd_nI (by omega), nI_clamp (by omega), r1, mk_xor] at e2
  have F2 : frL [16, 17] σ σ2 := by
    rw [e2, e1]
    exact frL_tr (frL_wr (by simp)) (frL_wr (by simp))
  have hno : ¬ nI o = nI w := by rw [nI_ne (by omega) (by omega)]; exact how
  have L17 : ∀ q, q < 9 → σ2.1 17 q = mk (fun k => decide (flp c S o w k = nI q)) m := by
    intro q hq
    rw [e2, wr_at, upd_if]
    by_cases hqw : q = w
    · subst hqw
      rw [if_pos rfl]
      refine mk_cong (fun k hk => ?_)
      unfold flp
      cases hs : S k with
      | false => simp
      | true =>
        rcases hS k hk hs with z | z
        · simp [z, hno]
        · simp [z, hno, Ne.symm hno]
    · rw [if_neg hqw, e1, wr_at, upd_if]
      by_cases hqo : q = o
      · subst hqo
        rw [if_pos rfl]
        refine mk_cong (fun k hk => ?_)
        unfold flp
        cases hs : S k with
        | false => simp
        | true =>
          rcases hS k hk hs with z | z
          · simp [z, Ne.symm hno]
          · simp [z, Ne.symm hno]
      · rw [if_neg hqo, K.2 q hq]
        refine mk_cong (fun k hk => ?_)
        unfold flp
        cases hs : S k with
        | false => simp
        | true =>
          have g1 : ¬ nI o = nI q := by rw [nI_ne (by omega) (by omega)]; omega
          have g2 : ¬ nI w = nI q := by rw [nI_ne (by omega) (by omega)]; omega
          rcases hS k hk hs with z | z
          · simp [z, g1, g2]
          · simp [z, g1, g2, Ne.symm hno]
  have L16 : ∀ k, k < 20 → σ2.1 16 k = if k < m then c k else -1 := by
    intro k hk
    rw [e2, wr_ne _ _ _ (by decide), e1, wr_ne _ _ _ (by decide), K.1 k hk]
  have L1 : σ2.1 1 6 = nI m := by rw [F2.1 1 (by simp)]; exact R.2.1
  refine lf_2_0 m (by omega) (fun k τ => (∀ j, j < 20 → τ.1 16 j = if j < m then (if j < k then flp c S o w j else c j) else -1) ∧ τ.1 17 = σ2.1 17 ∧ frL [16, 17] σ τ) (Nat.zero_le _) ⟨fun j hj => by rw [L16 j hj]; simp, rfl, F2⟩ ?_ ?_
  · intro rec k τ hk hI hrec
    obtain ⟨i1, i2, i3⟩ := hI
    have l1 : τ.1 1 6 = nI m := by rw [i3.1 1 (by simp)]; exact R.2.1
    refine br_f (by rw [l1]; exact nI_ge hk (by omega)) ?_
    dsimp only [kk_j1]
    rw [z_bit _ (by omega), mk_bt _ _ (by omega), decide_eq_true hk, Bool.true_and, bI_ite]
    refine bI_zn (fun hs => ?_) (fun hs => ?_)
    · refine hrec _ ⟨fun j hj => ?_, i2, i3⟩
      rw [i1 j hj]
      by_cases hjm : j < m
      · rw [if_pos hjm, if_pos hjm]
        by_cases hjk : j = k
        · subst hjk
          rw [if_neg (Nat.lt_irrefl _), if_pos (by omega)]
          unfold flp; rw [hs]; simp
        · by_cases hlt : j < k
          · rw [if_pos hlt, if_pos (by omega)]
          · rw [if_neg hlt, if_neg (by omega)]
      · rw [if_neg hjm, if_neg hjm]
    · refine ⟨vp_lt (by omega) (by omega), ?_⟩
      rw [rd_nI (by omega), i1 k (by omega), if_pos hk, if_neg (Nat.lt_irrefl _)]
      have step : ∀ x : Int32, x = flp c S o w k → vp_in (nI k) 20 ∧ ∀ σ_10 : kk_St, σ_10 = kk_wr τ 16 (nI k).toNatClampNeg x → rec (nI k + 1) σ_10 := by
        intro x hx
        refine ⟨vp_lt (by omega) (by omega), ?_⟩
        intro ρ e
        rw [nI_clamp (by omega)] at e
        subst e
        refine hrec _ ⟨fun j hj => ?_, by rw [wr_ne _ _ _ (by decide)]; exact i2, frL_tr i3 (frL_wr (by simp))⟩
        rw [wr_at, upd_if]
        by_cases hjk : j = k
        · subst hjk; rw [if_pos rfl, if_pos hk, if_pos (by omega), hx]
        · rw [if_neg hjk, i1 j hj]
          by_cases hjm : j < m
          · rw [if_pos hjm, if_pos hjm]
            by_cases hlt : j < k
            · rw [if_pos hlt, if_pos (by omega)]
            · rw [if_neg hlt, if_neg (by omega)]
          · rw [if_neg hjm, if_neg hjm]
      by_cases hz : c k = nI o
      · refine jn_f hz (step _ ?_)
        unfold flp; rw [hs, hz]; simp
      · refine jn_t hz (step _ ?_)
        unfold flp; rw [hs]; simp [hz]
  · intro rec τ hI
    obtain ⟨i1, i2, i3⟩ := hI
    have l1 : τ.1 1 6 = nI m := by rw [i3.1 1 (by simp)]; exact R.2.1
    refine br_t (by rw [l1]; exact nI_le (Nat.le_refl _) (by omega)) (h τ ⟨fun j hj => ?_, fun q hq => by rw [i2]; exact L17 q hq⟩ i3)
    rw [i1 j hj]
    by_cases hjm : j < m
    · rw [if_pos hjm, if_pos hjm, if_pos hjm]
    · rw [if_neg hjm, if_neg hjm]
/-- the reference's flips, over any of its rows -/
theorem sm_flips {S : Nat → Bool} {o w A : Nat} (hm : m ≤ 20) (ho : o < 1000) (hw : w < 1000) (hA : ∀ k, k < m → σ.1 A k = c k) (hS : ∀ k, k < m → S k = true → c k = nI o ∨ c k = nI w) {Q : kk_St → Prop} (h : ∀ σ', (∀ k, k < m → σ'.1 A k = flp c S o w k) → (∀ k, m ≤ k → σ'.1 A k = σ.1 A k) → frL [A] σ σ' → Q σ') : f_X11_flips A 20 (mk S m) (nI o) (nI w) σ Q := by
  unfold f_X11_flips
  refine lf_2_0 20 (by omega) (fun k τ => (∀ j, j < m → τ.1 A j = if j < k then flp c S o w j else c j) ∧ (∀ j, m ≤ j → τ.1 A j = σ.1 A j) ∧ frL [A] σ τ) (Nat.zero_le _) ⟨fun j hj => by rw [hA j hj]; simp, fun _ _ => rfl, frL_rf⟩ ?_ ?_
  · intro rec k τ hk hI hrec
    obtain ⟨i1, i2, i3⟩ := hI
    refine br_f (nI_ge (b := 20) hk (by omega)) ?_
    refine sp_has (by omega) ?_
    rw [mk_bt _ _ (by omega), bI_ite]
    dsimp only [kk_j1]
    have skip : ∀ j, j < m → (k < m → S k = false) → τ.1 A j = if j < k + 1 then flp c S o w j else c j := by
      intro j hj hs
      rw [i1 j hj]
      by_cases hjk : j = k
      · subst hjk
        rw [if_neg (Nat.lt_irrefl _), if_pos (by omega)]
        unfold flp; rw [hs hj]; simp
      · by_cases hlt : j < k
        · rw [if_pos hlt, if_pos (by omega)]
        · rw [if_neg hlt, if_neg (by omega)]
    refine bI_zn (fun hs => ?_) (fun hs => ?_)
    · refine hrec _ ⟨fun j hj => skip j hj (fun hkm => by simpa [hkm] using hs), i2, i3⟩
    · simp only [Bool.and_eq_true, decide_eq_true_eq] at hs
      obtain ⟨hkm, hs⟩ := hs
      refine ⟨vp_lt hk (by omega), vp_lt hk (by omega), ?_⟩
      intro ρ e
      rw [rd_nI (by omega), nI_clamp (by omega), i1 k hkm, if_neg (Nat.lt_irrefl _)] at e
      subst e
      refine hrec _ ⟨fun j hj => ?_, fun j hj => ?_, frL_tr i3 (frL_wr (by simp))⟩
      · rw [wr_at, upd_if]
        by_cases hjk : j = k
        · subst hjk
          rw [if_pos rfl, if_pos (by omega)]
          unfold flp
          rw [hs]
          rcases hS j hkm hs with z | z
          · simp [z]
            rw [nI_add, z_sub (by omega)]; congr 1; omega
          · by_cases zo : c j = nI o
            · have : nI o = nI w := zo.symm.trans z
              rw [if_pos rfl, if_pos zo, z, nI_add, z_sub (by omega)]
              rw [nI_ne (by omega) (by omega)] at this
              congr 1; omega
            · rw [if_pos rfl, if_neg zo, z, nI_add, z_sub (by omega)]; congr 1; omega
        · rw [if_neg hjk, i1 j hj]
          by_cases hlt : j < k
          · rw [if_pos hlt, if_pos (by omega)]
          · rw [if_neg hlt, if_neg (by omega)]
      · rw [wr_at, upd_ne _ _ (by omega)]; exact i2 j hj
  · intro rec τ hI
    obtain ⟨i1, i2, i3⟩ := hI
    refine br_t (nI_le (a := 20) (Nat.le_refl _) (by omega)) (h τ (fun k hk => ?_) i2 i3)
    rw [i1 k hk, if_pos (by omega)]
end
