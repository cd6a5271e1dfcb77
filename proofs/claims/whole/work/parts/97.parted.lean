/-! shares: the second side's rows -/
def nL (x : Nat) : Int64 := Int64.ofNat x
theorem nL_1 (x : Nat) : nL x + 1 = nL (x + 1) := by
  unfold nL
  rw [Int64.ofNat_add]
  rfl
theorem nL_nI {x : Nat} (h : x < 2 ^ 31) : (nI x).toInt64 = nL x := by
  apply Int64.toInt_inj.mp
  rw [Int32.toInt_toInt64, nI_toInt h]
  unfold nL
  rw [Int64.toInt_ofNat_of_lt (by omega)]
section
variable {n m : Nat} {a b : Nat → Nat} {c : Nat → Int32} {σ : kk_St}
/-- the parts of the lines before a line -/
def PTc (k : Nat) (p : Nat → Nat) (σ : kk_St) : Prop := ∀ j, j < k → σ.1 16 j = nI (p j)
theorem pa_le {p : Nat → Nat} : ∀ {k : Nat}, (∀ j, j < k → p j ≤ pa p j) → pa p k ≤ k
  | 0, _ => Nat.le_refl _
  | k + 1, h => by
    have ih := pa_le (p := p) (k := k) (fun j hj => h j (by omega))
    have := h k (by omega)
    rw [pa_s]
    split <;> omega
theorem sm_partsAhead {p : Nat → Nat} {k : Nat} (hk : k ≤ 9) (H : PTc k p σ) (hp : ∀ j, j < k → p j ≤ pa p j) {Q : Int32 → Prop} (h : Q (nI (pa p k))) : f_X11_partsAhead (nI k) σ Q := by
  unfold f_X11_partsAhead
  refine lf_2_1 k (by omega) (fun j x => x = nI (pa p j)) (Nat.zero_le _) rfl ?_ ?_
  · rintro rec j _ hj rfl hrec
    have b1 := pa_le (p := p) (k := j) (fun i hi => hp i (by omega))
    have b2 := hp j hj
    refine br_f (nI_ge hj (by omega)) ⟨vp_lt (by omega) (by omega), ?_⟩
    rw [rd_nI (by omega), H j hj, nI_1 (p j)]
    dsimp only [kk_j1]
    rcases Nat.lt_or_ge (pa p j) (p j + 1) with g | g
    · refine br_f (nI_ge g (by omega)) ⟨vp_lt (by omega) (by omega), ?_⟩
      rintro _ rfl
      exact hrec _ (by rw [pa_s, if_pos g])
    · exact br_t (nI_le g (by omega)) (hrec _ (by rw [pa_s, if_neg (by omega)]))
  · rintro rec _ rfl
    exact br_t (nI_le (Nat.le_refl _) (by omega)) h
theorem sm_canBePart (M : RM n m a b c σ) (W : Wf n m a b) {p : Nat → Nat} {k w : Nat} (hk : k < m) (h9 : m ≤ 9) (H : PTc k p σ) (hp : ∀ j, j < k → p j ≤ pa p j) (hw : σ.1 16 k = nI w) (hw9 : w ≤ 9) {Q : Int32 → Prop} (h : Q (bI (fits a b p k w))) : f_X11_canBePart (nI k) σ Q := by
  unfold f_X11_canBePart
  refine lf_1_0 k (by omega) (fun j => ∀ i, i < j → (decide (p i = w) && mts a b k i) = false) (Nat.zero_le _) (fun _ h => absurd h (Nat.not_lt_zero _)) ?_ ?_
  · rintro rec j hj i1 hrec
    have b1 := pa_le (p := p) (k := j) (fun i hi => hp i (by omega))
    have b2 := hp j hj
    refine br_f (nI_ge hj (by omega)) ⟨vp_lt (by omega) (by omega), vp_lt (by omega) (by omega), ?_⟩
    rw [rd_nI (by omega), rd_nI (by omega), H j hj, hw]
    dsimp only [kk_j0]
    have go : (decide (p j = w) && mts a b k j) = false → rec (nI j + 1) := fun z => hrec (fun i hi => by
      by_cases e : i = j
      · rw [e]; exact z
      · exact i1 i (by omega))
    refine ⟨fun z => go ?_, fun z => ?_⟩
    · rw [decide_eq_false (fun y => z (by rw [y]))]; rfl
    · have z := (nI_ne (by omega) (by omega)).mp z
      refine sm_doMeet M W hk (show j < m by omega) ?_
      rw [doMeet_eq (m := m) (show k ≠ j by omega)]
      refine bI_zn (fun y => go (by rw [y, Bool.and_false])) (fun y => ?_)
      have : fits a b p k w = false := by
        unfold fits
        rw [anyb_iff.mpr ⟨j, hj, by rw [decide_eq_true z, y]; rfl⟩]; rfl
      rw [this] at h
      exact h
  · rintro rec i1
    have : fits a b p k w = true := by
      unfold fits
      rw [anyb_no.mpr i1]; rfl
    rw [this] at h
    exact br_t (nI_le (Nat.le_refl _) (by omega)) h
/-- what is left to come, row by row -/
def Rm (m : Nat) (a b : Nat → Nat) (e : Nat → Nat) (y k : Nat) (p : Nat → Nat) : Nat := sumN (fun i => tl m a b e y i p (p i + 1)) k
theorem Rm_cong {e : Nat → Nat} {y k : Nat} {p p' : Nat → Nat} (hk : k ≤ m) (h : ∀ j, j < k → p j = p' j) : Rm m a b e y k p = Rm m a b e y k p' := sumN_cong (fun i hi => by rw [tl_cong (show i < m by omega) (p := p) (p' := p') (fun j hj => h j (by omega)), h i hi])
theorem Rm_s {e : Nat → Nat} {y k : Nat} {p : Nat → Nat} : Rm m a b e y (k + 1) p = Rm m a b e y k p + tl m a b e y k p (p k + 1) := rfl
theorem dl_le (z u : Nat) : dl z u ≤ 1 := by
  unfold dl
  split <;> omega
def one1 : Nat → Nat := fun _ => 1
/-- where the search of shares stands -/
def InvP (m : Nat) (a b : Nat → Nat) (σ : kk_St) (N : Nat) (v : Int32) (τ : kk_St) : Prop :=
  frF [16] [] σ (τ.1, σ.2) ∧
  ((v = -1 ∧ ∀ z, z ≤ 9 → τ.2 z = nL (Wg m a b (dl z) 0 m (fun _ => 0))) ∨
   (∃ (k : Nat) (p : Nat → Nat) (w : Nat) (cnt : Nat → Nat), v = nI k ∧ k < m ∧ PTc k p τ ∧ (∀ j, j < k → p j ≤ pa p j) ∧ τ.1 16 k + 1 = nI w ∧ w ≤ pa p k + 1 ∧ (∀ z, z ≤ 9 → τ.2 z = nL (cnt z) ∧ cnt z + (tl m a b (dl z) 0 k p w + Rm m a b (dl z) 0 k p) = Wg m a b (dl z) 0 m (fun _ => 0)) ∧ N = tl m a b one1 1 k p w + Rm m a b one1 1 k p) ∨
   (∃ (p : Nat → Nat) (cnt : Nat → Nat), v = nI m ∧ PTc m p τ ∧ (∀ j, j < m → p j ≤ pa p j) ∧ (∀ z, z ≤ 9 → τ.2 z = nL (cnt z) ∧ cnt z + (dl z (pa p m) + Rm m a b (dl z) 0 m p) = Wg m a b (dl z) 0 m (fun _ => 0)) ∧ N = 1 + Rm m a b one1 1 m p))
theorem sm_laysParted (M : RM n m a b c σ) (W : Wf n m a b) (h9 : m ≤ 9) {Q : kk_St → Prop} (h : ∀ τ, frF [16] [] σ (τ.1, σ.2) → (∀ z, z ≤ 9 → τ.2 z = nL (Wg m a b (dl z) 0 m (fun _ => 0))) → Q τ) : f_X11_laysParted σ Q := by
  unfold f_X11_laysParted
  refine lf_2_0 10 (by omega) (fun k τ => τ.1 = σ.1 ∧ ∀ z, z < k → τ.2 z = nL 0) (Nat.zero_le _) ⟨rfl, fun _ h => absurd h (Nat.not_lt_zero _)⟩ ?_ ?_
  · rintro rec k τ hk ⟨e1, i1⟩ hrec
    refine br_f (nI_ge (a := k) (b := 10) hk (by omega)) ⟨vp_lt (by omega) (by omega), ?_⟩
    rintro _ rfl
    refine hrec _ ⟨e1, fun z hz => ?_⟩
    rw [nI_clamp (by omega)]
    show (if z = k then (0 : Int64) else τ.2 z) = _
    by_cases e : z = k
    · rw [if_pos e]; rfl
    · rw [if_neg e]; exact i1 z (by omega)
  rintro rec τ0 ⟨e10, i0⟩
  refine br_t (nI_le (a := 10) (b := 10) (Nat.le_refl _) (by omega)) ⟨vp_lt (k := 0) (by omega) (by omega), ?_⟩
  rintro _ rfl
  have c0 : Int32.toNatClampNeg (0 : Int32) = 0 := by decide
  rw [c0]
  have fr1 : frF [16] [] σ ((kk_wr τ0 16 0 (-1)).1, σ.2) := by
    have : frF [16] [] σ (kk_wr σ 16 0 (-1)) := frF_c (by simp) (by decide)
    have e : (kk_wr τ0 16 0 (-1)).1 = (kk_wr σ 16 0 (-1)).1 := by
      show (fun c => if c = 16 then upd (τ0.1 16) 0 (-1) else τ0.1 c) = (fun c => if c = 16 then upd (σ.1 16) 0 (-1) else σ.1 c)
      rw [e10]
    rw [e]; exact this
  have start : ∃ N, InvP m a b σ N 0 (kk_wr τ0 16 0 (-1)) := by
    by_cases hm0 : m = 0
    · refine ⟨_, fr1, Or.inr (Or.inr ⟨fun _ => 0, fun _ => 0, by rw [hm0]; rfl, fun j hj => by omega, fun j hj => by omega, fun z hz => ⟨i0 z (by omega), ?_⟩, rfl⟩)⟩
      subst hm0
      show 0 + (dl z (pa (fun _ => 0) 0) + 0) = dl z (pa (fun _ => 0) 0)
      omega
    · refine ⟨_, fr1, Or.inr (Or.inl ⟨0, fun _ => 0, 0, fun _ => 0, rfl, by omega, fun j hj => by omega, fun j hj => by omega, ?_, Nat.zero_le _, fun z hz => ⟨i0 z (by omega), ?_⟩, rfl⟩)⟩
      · rw [wr_at, upd_at]; decide
      · rw [tl_0 (by omega), Nat.sub_zero]
        show 0 + (Wg m a b (dl z) 0 m (fun _ => 0) + 0) = _
        omega
  obtain ⟨N0, start⟩ := start
  refine lpG2 (InvP m a b σ) ?_ start
  rintro rec7 N v τ ⟨fr, hI⟩ hrec7
  have Mk : RM n m a b c τ := (RM_fr M fr (by simp) (by simp) : RM n m a b c (τ.1, σ.2))
  have back : ∀ k p w (cnt : Nat → Nat) (τ' : kk_St) N', k ≤ m → frF [16] [] σ (τ'.1, σ.2) → PTc k p τ' → (∀ j, j < k → p j ≤ pa p j) → (∀ z, z ≤ 9 → τ'.2 z = nL (cnt z) ∧ cnt z + Rm m a b (dl z) 0 k p = Wg m a b (dl z) 0 m (fun _ => 0)) → w = Rm m a b one1 1 k p → w < N' → (∀ N'' x, N'' < N' → InvP m a b σ N'' x τ' → rec7 x τ') → rec7 (nI k + (-1 : Int32)) τ' := by
    intro k p w cnt τ' N' hk f' T' hp hz hw hN hr
    cases k with
    | zero =>
      refine hr 0 _ (by omega) ⟨f', Or.inl ⟨by decide, fun z hz' => ?_⟩⟩
      obtain ⟨z1, z2⟩ := hz z hz'
      rw [z1]
      congr 1
    | succ k =>
      have ed : nI (k + 1) + (-1 : Int32) = nI k := by
        rw [← nI_1, Int32.add_assoc]
        exact Int32.add_zero _
      rw [ed]
      have b1 := hp k (by omega)
      refine hr w _ hN ⟨f', Or.inr (Or.inl ⟨k, p, p k + 1, cnt, rfl, by omega, fun j hj => T' j (by omega), fun j hj => hp j (by omega), ?_, by omega, fun z hz' => ⟨(hz z hz').1, ?_⟩, ?_⟩)⟩
      · rw [T' k (by omega), nI_1]
      · have := (hz z hz').2
        rw [Rm_s] at this
        omega
      · rw [hw, Rm_s]; omega
  rcases hI with ⟨rfl, hz⟩ | ⟨k, p, w, cnt, rfl, hk, T, hp, ew, hw, hz, rfl⟩ | ⟨p, cnt, rfl, T, hp, hz, rfl⟩
  · exact br_t (by decide) (h τ fr hz)
  · have pk := pa_le hp
    rw [Mk.2.1]
    refine br_f (nI_nlt (a := k) (b := 0) (Nat.zero_le _) (by omega)) (jn_t (fun z => by have := (nI_ne (by omega) (by omega)).mp z; omega) ⟨vp_lt (by omega) (by omega), vp_lt (by omega) (by omega), ?_⟩)
    rintro _ rfl
    rw [rd_nI (by omega), ew, nI_clamp (by omega)]
    have f8 : frF [16] [] σ ((kk_wr τ 16 k (nI w)).1, σ.2) := frF_w (τ := (τ.1, σ.2)) fr (by simp) (by decide)
    have T8 : PTc k p (kk_wr τ 16 k (nI w)) := fun j hj => by rw [wr_at, upd_ne _ _ (by omega)]; exact T j hj
    have e8 : (kk_wr τ 16 k (nI w)).1 16 k = nI w := by rw [wr_at, upd_at]
    have z8 : ∀ z, z ≤ 9 → (kk_wr τ 16 k (nI w)).2 z = nL (cnt z) := fun z hz' => (hz z hz').1
    generalize kk_wr τ 16 k (nI w) = τ8 at f8 T8 e8 z8 hrec7 ⊢
    have M8 : RM n m a b c τ8 := (RM_fr M f8 (by simp) (by simp) : RM n m a b c (τ8.1, σ.2))
    refine ⟨vp_lt (by omega) (by omega), ?_⟩
    refine sm_partsAhead (by omega) T8 hp ?_
    rw [rd_nI (by omega), e8]
    rcases Nat.lt_or_ge (pa p k) w with g | g
    · refine br_f (nI_ge g (by omega)) ?_
      refine back k p _ cnt τ8 _ (by omega) f8 T8 hp (fun z hz' => ⟨z8 z hz', ?_⟩) rfl ?_ (fun N'' x h1 h2 => hrec7 N'' x τ8 h1 h2)
      · have := (hz z hz').2
        rw [tl_out g] at this
        omega
      · rw [tl_out g]; omega
    · refine br_t (nI_le g (by omega)) ?_
      refine sm_canBePart M8 W hk h9 T8 hp e8 (by omega) ?_
      have st := fun (e : Nat → Nat) (y : Nat) => tl_st (m := m) (a := a) (b := b) (e := e) (y := y) g
      refine bI_zn (fun x => ?_) (fun x => ?_)
      · refine hrec7 (tl m a b one1 1 k p (w + 1) + Rm m a b one1 1 k p) _ _ ?_ ⟨f8, Or.inr (Or.inl ⟨k, p, w + 1, cnt, rfl, hk, T8, hp, by rw [e8, nI_1], by omega, fun z hz' => ⟨z8 z hz', ?_⟩, rfl⟩)⟩
        · rw [st, x]; omega
        · have := (hz z hz').2
          rw [st, x] at this
          simp only [Bool.false_eq_true, if_false] at this
          omega
      · rw [nI_1 k]
        refine ⟨vp_lt (by omega) (by omega), ?_⟩
        rintro _ rfl
        rw [nI_clamp (by omega)]
        have f11 : frF [16] [] σ ((kk_wr τ8 16 (k + 1) (-1)).1, σ.2) := frF_w (τ := (τ8.1, σ.2)) f8 (by simp) (by decide)
        have agree : ∀ j, j < k → ext1 p k w j = p j := fun j hj => x1_ne _ _ (by omega)
        have pe : ∀ j, j ≤ k → pa (ext1 p k w) j = pa p j := fun j hj => pa_cong (fun i hi => agree i (by omega))
        have T11 : PTc (k + 1) (ext1 p k w) (kk_wr τ8 16 (k + 1) (-1)) := fun j hj => by
          rw [wr_at, upd_ne _ _ (by omega)]
          by_cases e : j = k
          · rw [e, x1_at, e8]
          · rw [x1_ne _ _ e]; exact T8 j (by omega)
        have hp11 : ∀ j, j < k + 1 → ext1 p k w j ≤ pa (ext1 p k w) j := fun j hj => by
          rw [pe j (by omega)]
          by_cases e : j = k
          · rw [e, x1_at]; exact g
          · rw [x1_ne _ _ e]; exact hp j (by omega)
        have rm : ∀ (e : Nat → Nat) (y : Nat), Rm m a b e y (k + 1) (ext1 p k w) = Rm m a b e y k p + tl m a b e y k p (w + 1) := fun e y => by
          rw [Rm_s, Rm_cong (p := ext1 p k w) (p' := p) (by omega) agree, tl_cong hk agree, x1_at]
        by_cases km : k + 1 = m
        · refine hrec7 (1 + Rm m a b one1 1 m (ext1 p k w)) _ _ ?_ ⟨f11, Or.inr (Or.inr ⟨ext1 p k w, cnt, by rw [km], by rw [← km]; exact T11, by rw [← km]; exact hp11, fun z hz' => ⟨z8 z hz', ?_⟩, rfl⟩)⟩
          · have r := rm one1 1
            rw [km] at r
            rw [r, st, x, if_pos rfl, show m - 1 - k = 0 by omega]
            have e0 : Wg m a b one1 1 0 (ext1 p k w) = 1 := rfl
            rw [e0]
            omega
          · have := (hz z hz').2
            rw [st, x, if_pos rfl, show m - 1 - k = 0 by omega] at this
            have e0 : Wg m a b (dl z) 0 0 (ext1 p k w) = dl z (pa (ext1 p k w) m) := rfl
            rw [e0] at this
            have r := rm (dl z) 0
            rw [km] at r
            rw [r]
            omega
        · refine hrec7 (tl m a b one1 1 (k + 1) (ext1 p k w) 0 + Rm m a b one1 1 (k + 1) (ext1 p k w)) _ _ ?_ ⟨f11, Or.inr (Or.inl ⟨k + 1, ext1 p k w, 0, cnt, rfl, by omega, T11, hp11, by rw [wr_at, upd_at]; decide, Nat.zero_le _, fun z hz' => ⟨z8 z hz', ?_⟩, rfl⟩)⟩
          · rw [rm, tl_0 (show k + 1 < m by omega), st, x, if_pos rfl, show m - (k + 1) = m - 1 - k by omega]
            omega
          · have := (hz z hz').2
            rw [st, x, if_pos rfl] at this
            rw [rm, tl_0 (show k + 1 < m by omega), show m - (k + 1) = m - 1 - k by omega]
            omega
  · have pk := pa_le hp
    rw [Mk.2.1]
    refine br_f (nI_nlt (a := m) (b := 0) (Nat.zero_le _) (by omega)) (jn_f rfl ?_)
    refine sm_partsAhead h9 T hp ⟨vp_lt (by omega) (by omega), vp_lt (by omega) (by omega), ?_⟩
    rintro _ rfl
    rw [nI_clamp (by omega), (hz _ (by omega)).1, nL_1]
    refine back m p _ (fun z => cnt z + dl z (pa p m)) _ _ (Nat.le_refl _) fr T hp (fun z hz' => ⟨?_, ?_⟩) rfl (by omega) (fun N'' x h1 h2 => hrec7 N'' x _ h1 h2)
    · show (if z = pa p m then nL (cnt (pa p m) + 1) else τ.2 z) = nL (cnt z + dl z (pa p m))
      unfold dl
      by_cases e : z = pa p m
      · rw [if_pos e, if_pos e.symm, e]
      · rw [if_neg e, if_neg (fun x => e x.symm), (hz z hz').1]; rfl
    · have := (hz z hz').2
      omega
end
