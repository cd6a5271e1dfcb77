/-! pair: even -/
def gU (m : Nat) (c : Nat → Int32) : Nat := mx (fun k => cv (c k)) m
def scn (m : Nat) (c : Nat → Int32) : Nat → Nat × Nat
  | 0 => (0, 0)
  | k + 1 => (if cnq m c (scn m c k).1 < cnq m c k then k else (scn m c k).1, if cnq m c k < cnq m c (scn m c k).2 then k else (scn m c k).2)
def sM (m : Nat) (c : Nat → Int32) : Nat := if gU m c ≤ 1 then 1 else gU m c
def hiQ (m : Nat) (c : Nat → Int32) : Nat := (scn m c (sM m c)).1
def loQ (m : Nat) (c : Nat → Int32) : Nat := (scn m c (sM m c)).2
def stp (m : Nat) (c : Nat → Int32) : Bool := !decide (cnq m c (loQ m c) + 2 ≤ cnq m c (hiQ m c))
noncomputable def led (m : Nat) (a b : Nat → Nat) (c : Nat → Int32) (o w k : Nat) : Bool := plw c o w k && decide (fb_ct (fun j => ch m a b (plw c o w) k j && decide (c j = nI w)) m < fb_ct (fun j => ch m a b (plw c o w) k j && decide (c j = nI o)) m)
noncomputable def evs (m : Nat) (a b : Nat → Nat) (c : Nat → Int32) : Nat → Int32 := flp c (ch m a b (plw c (hiQ m c) (loQ m c)) (fa_first (led m a b c (hiQ m c) (loQ m c)) m)) (hiQ m c) (loQ m c)
noncomputable def evc (m : Nat) (a b : Nat → Nat) (c : Nat → Int32) : Nat → Nat → Int32
  | 0 => c
  | i + 1 => evs m a b (evc m a b c i)
theorem scn_lt {m : Nat} {c : Nat → Int32} : ∀ k, (scn m c k).1 < k + 1 ∧ (scn m c k).2 < k + 1 ∧ ((scn m c k).1 = 0 ∨ (scn m c k).1 < k) ∧ ((scn m c k).2 = 0 ∨ (scn m c k).2 < k)
  | 0 => ⟨Nat.zero_lt_one, Nat.zero_lt_one, Or.inl rfl, Or.inl rfl⟩
  | k + 1 => by
    obtain ⟨h1, h2, h3, h4⟩ := scn_lt (m := m) (c := c) k
    rw [scn]
    refine ⟨?_, ?_, ?_, ?_⟩ <;> dsimp only <;> split <;> omega
section
variable {n m : Nat} {a b : Nat → Nat} {c : Nat → Int32} {σ : kk_St}
theorem gU_le (P : Pr n m a b c) (hD : Dg n m a b ≤ 8) : gU m c ≤ Dg n m a b + 1 := mx_le (fun k hk => by
  rcases P.1 k hk with h | ⟨q, hq, h⟩
  · rw [h, show cv (-1) = 0 from rfl]; omega
  · rw [h, cv_nI (by omega)]; omega)
theorem hl_le (P : Pr n m a b c) (hD : Dg n m a b ≤ 8) : hiQ m c ≤ Dg n m a b ∧ loQ m c ≤ Dg n m a b := by
  have h := gU_le P hD
  obtain ⟨_, _, h3, h4⟩ := scn_lt (m := m) (c := c) (sM m c)
  unfold hiQ loQ
  have : sM m c ≤ Dg n m a b + 1 := by unfold sM; split <;> omega
  omega
theorem sM_9 (P : Pr n m a b c) (hD : Dg n m a b ≤ 8) : 1 ≤ sM m c ∧ sM m c ≤ 9 ∧ gU m c ≤ sM m c ∧ ∀ k, 1 ≤ k → k < sM m c → k < gU m c := by
  have h := gU_le P hD
  unfold sM
  split
  · exact ⟨by omega, by omega, by omega, fun k h1 h2 => by omega⟩
  · exact ⟨by omega, by omega, by omega, fun k h1 h2 => by omega⟩
/-- some chain leans -/
theorem led_ex {o w : Nat} (h : cnq m c w < cnq m c o) : ∃ k, k < m ∧ led m a b c o w k = true := by
  apply Classical.byContradiction
  intro hno
  have all : ∀ k, k < m → plw c o w k = true → fb_ct (fun j => ch m a b (plw c o w) k j && decide (c j = nI o)) m ≤ fb_ct (fun j => ch m a b (plw c o w) k j && decide (c j = nI w)) m := by
    intro k hk hp
    apply Nat.not_lt.mp
    intro z
    exact hno ⟨k, hk, by unfold led; rw [hp, decide_eq_true z]; rfl⟩
  have key : ∀ k, k ≤ m → fb_ct (fun j => chD m a b (plw c o w) k j && decide (c j = nI o)) m ≤ fb_ct (fun j => chD m a b (plw c o w) k j && decide (c j = nI w)) m := by
    intro k
    induction k with
    | zero => intro _; rw [(fb_ct_zero (p := fun j => chD m a b (plw c o w) 0 j && decide (c j = nI o))).mpr (fun _ _ => rfl)]; exact Nat.zero_le _
    | succ k ih =>
      intro hk
      have ih := ih (by omega)
      cases hH : chH m a b (plw c o w) k with
      | false =>
        rw [fb_ct_cong (p := fun j => chD m a b (plw c o w) (k + 1) j && decide (c j = nI o)) (q := fun j => chD m a b (plw c o w) k j && decide (c j = nI o)) (fun j _ => by rw [chD_no hH]), fb_ct_cong (p := fun j => chD m a b (plw c o w) (k + 1) j && decide (c j = nI w)) (q := fun j => chD m a b (plw c o w) k j && decide (c j = nI w)) (fun j _ => by rw [chD_no hH])]
        exact ih
      | true =>
        have hp : plw c o w k = true := by unfold chH at hH; rw [Bool.and_eq_true] at hH; exact hH.1
        have hD : chD m a b (plw c o w) k k = false := by unfold chH at hH; rw [Bool.and_eq_true, Bool.not_eq_true'] at hH; exact hH.2
        have spl : ∀ x : Int32, fb_ct (fun j => chD m a b (plw c o w) (k + 1) j && decide (c j = x)) m = fb_ct (fun j => chD m a b (plw c o w) k j && decide (c j = x)) m + fb_ct (fun j => ch m a b (plw c o w) k j && decide (c j = x)) m := by
          intro x
          rw [← fb_ct_or]
          · exact fb_ct_cong (fun j _ => by rw [chD_yes hH, Bool.and_or_distrib_right])
          · rintro j _ ⟨g1, g2⟩
            rw [Bool.and_eq_true] at g1 g2
            obtain ⟨l, hl, h2⟩ := anyb_iff.mp g1.1
            rw [Bool.and_eq_true] at h2
            have : chD m a b (plw c o w) k k = true := anyb_iff.mpr ⟨l, hl, by rw [h2.1, ch_tr h2.2 (ch_sy g2.1)]; rfl⟩
            rw [hD] at this; cases this
        rw [spl, spl]
        have := all k (by omega) hp
        omega
  have fin := key m (Nat.le_refl _)
  have ful : ∀ x, (x = o ∨ x = w) → fb_ct (fun j => chD m a b (plw c o w) m j && decide (c j = nI x)) m = cnq m c x := by
    intro x hx
    refine fb_ct_cong (fun j hj => ?_)
    by_cases hc : c j = nI x
    · have hp : plw c o w j = true := by unfold plw; rcases hx with y | y <;> simp [hc, y]
      have : chD m a b (plw c o w) m j = true := anyb_iff.mpr ⟨j, hj, by rw [hp, ch_rf hj hp]; rfl⟩
      rw [this, Bool.true_and]
    · rw [decide_eq_false hc, Bool.and_false]
  rw [ful o (Or.inl rfl), ful w (Or.inr rfl)] at fin
  omega
theorem sc_greatestUsed (K : RK m c σ) (hm : m ≤ 20) (h9 : ∀ k, k < m → c k = -1 ∨ ∃ q, q < 9 ∧ c k = nI q) {Q : Int32 → Prop} (h : Q (enc (gU m c))) : f_X2_greatestUsed σ Q := by
  unfold f_X2_greatestUsed
  refine lf_2_1 9 (by omega) (fun k x => ∃ t, t ≤ k ∧ x = enc t ∧ (t = 0 ∨ ¬ cnq m c (t - 1) = 0) ∧ ∀ q, t ≤ q → q < k → cnq m c q = 0) (k0 := 0) (by omega) ⟨0, Nat.le_refl _, rfl, Or.inl rfl, fun q _ hq => absurd hq (Nat.not_lt_zero _)⟩ ?_ ?_
  · rintro rec k x hk ⟨t, ht, rfl, h1, h2⟩ hrec
    refine br_f (nI_ge (b := 9) hk (by omega)) ⟨vp_lt (by omega) (by omega), ?_⟩
    dsimp only [kk_j1]
    refine ⟨fun y => hrec _ ⟨t, by omega, rfl, h1, fun q q1 q2 => ?_⟩, fun y => hrec _ ⟨k + 1, by omega, ?_, Or.inr ?_, fun q q1 q2 => by omega⟩⟩
    · by_cases hqk : q = k
      · rw [hqk]; exact (sc_rd17 K hk hm).mp y
      · exact h2 q q1 (by omega)
    · unfold enc; rw [if_neg (by omega), Nat.add_sub_cancel]
    · rw [Nat.add_sub_cancel]; exact fun z => y ((sc_rd17 K hk hm).mpr z)
  · rintro rec x ⟨t, ht, rfl, h1, h2⟩
    refine br_t (nI_le (a := 9) (Nat.le_refl _) (by omega)) ?_
    have e : t = gU m c := by
      have hg : gU m c ≤ 9 := gu_le h9
      apply Nat.le_antisymm
      · rcases h1 with h1 | h1
        · omega
        · obtain ⟨k, hk, hc⟩ := fb_ct_pos.mp (Nat.pos_of_ne_zero h1)
          have hc : c k = nI (t - 1) := by simpa using hc
          have := mx_ge (fun k => cv (c k)) hk
          rw [hc, cv_nI (by omega)] at this
          unfold gU
          omega
      · rcases mx_at (fun k => cv (c k)) (n := m) with y | ⟨k, hk, y⟩
        · unfold gU; omega
        · apply Nat.not_lt.mp
          intro z
          have hgv : cv (c k) = gU m c := y
          rcases h9 k hk with u | ⟨q, hq, u⟩
          · rw [u, show cv (-1) = 0 from rfl] at hgv; omega
          · rw [u, cv_nI hq] at hgv
            have := h2 q (by omega) hq
            have := fb_ct_zero.mp this k hk
            rw [decide_eq_true u] at this; cases this
    rw [e]; exact h
theorem sc_howMany (K : RK m c σ) (hm : m ≤ 20) {q : Nat} (hq : q < 9) {Q : Int32 → Prop} (h : Q (nI (cnq m c q))) : f_X2_howMany (nI q) σ Q := by
  unfold f_X2_howMany
  refine ⟨vp_lt (by omega) (by omega), ?_⟩
  rw [rd_nI (by omega), K.2 q hq]
  exact sp_bitCountM (by omega) h
theorem sc_leaningChain (N : RN n m a b σ) (K : RK m c σ) (hm : m ≤ 20) {o w L : Nat} (ho : o < 9) (hw : w < 9) (hL : L < m) (h1 : led m a b c o w L = true) (h0 : ∀ j, j < L → led m a b c o w j = false) {Q : Int32 → Prop} (h : Q (mk (ch m a b (plw c o w) L) m)) : f_X2_leaningChain (nI o) (nI w) σ Q := by
  unfold f_X2_leaningChain
  refine ⟨vp_lt (by omega) (by omega), vp_lt (by omega) (by omega), ?_⟩
  intro x ex
  rw [rd_nI (by omega), rd_nI (by omega), K.2 o ho, K.2 w hw, mk_or] at ex
  have ex : x = mk (plw c o w) m := ex
  refine lf_2_1 m (by omega) (fun k r => k ≤ L ∧ r = mk (fun j => plw c o w j && !chD m a b (plw c o w) k j) m) (k0 := 0) (by omega) ⟨by omega, ?_⟩ ?_ ?_
  · rw [ex]
    exact mk_cong (fun k _ => by simp [chD, anyb])
  · rintro rec k r hk ⟨hkL, rfl⟩ hrec
    refine br_f (by rw [N.2.1]; exact nI_ge hk (by omega)) ?_
    dsimp only [kk_j1]
    have e1 : bt (mk (fun j => plw c o w j && !chD m a b (plw c o w) k j) m) k = chH m a b (plw c o w) k := by
      rw [mk_bt _ _ (by omega)]; simp [hk, chH]
    refine ⟨fun z => ?_, fun z => ?_⟩
    · have z := (z_bit0 _ (by omega)).mp z
      rw [e1] at z
      refine hrec _ ⟨?_, mk_cong (fun j _ => by rw [chD_no z])⟩
      -- k is not L: a line before would lean
      by_cases hkl : k = L
      · exfalso
        rw [hkl] at z
        have hp : plw c o w L = true := by unfold led at h1; rw [Bool.and_eq_true] at h1; exact h1.1
        unfold chH at z
        rw [hp, Bool.true_and, Bool.not_eq_false'] at z
        obtain ⟨l, hl, h2⟩ := anyb_iff.mp z
        rw [Bool.and_eq_true] at h2
        have := h0 l hl
        unfold led at this h1
        rw [h2.1, Bool.true_and] at this
        rw [hp, Bool.true_and] at h1
        have e : ∀ j, ch m a b (plw c o w) l j = ch m a b (plw c o w) L j := ch_same h2.2
        simp only [e] at this
        rw [this] at h1; cases h1
      · omega
    · have z : chH m a b (plw c o w) k = true := by
        cases hz : chH m a b (plw c o w) k with
        | true => rfl
        | false => exact absurd ((z_bit0 _ (by omega)).mpr (by rw [e1]; exact hz)) z
      have hp : plw c o w k = true := by unfold chH at z; rw [Bool.and_eq_true] at z; exact z.1
      rw [mk_one hk (by omega), ex]
      refine sc_joined N hm ?_
      intro r' er
      rw [mk_andn] at er
      refine ⟨vp_lt (by omega) (by omega), ?_⟩
      rw [rd_nI (by omega), rd_nI (by omega), K.2 o ho, K.2 w hw, mk_and, mk_and]
      refine sp_bitCountM (by omega) ⟨vp_lt (by omega) (by omega), ?_⟩
      refine sp_bitCountM (by omega) ?_
      have l1 := fb_ct_le (fun j => ch m a b (plw c o w) k j && decide (c j = nI o)) m
      have l2 := fb_ct_le (fun j => ch m a b (plw c o w) k j && decide (c j = nI w)) m
      refine ⟨fun y => hrec _ ⟨?_, ?_⟩, fun y => ?_⟩
      · by_cases hkl : k = L
        · exfalso
          rw [← hkl] at h1
          unfold led at h1
          rw [hp, Bool.true_and, decide_eq_true_eq] at h1
          exact nI_ge h1 (by omega) y
        · omega
      · rw [er]
        refine mk_cong (fun j _ => ?_)
        rw [chD_yes z]
        show ((plw c o w j && !chD m a b (plw c o w) k j) && !ch m a b (plw c o w) k j) = _
        cases plw c o w j <;> cases chD m a b (plw c o w) k j <;> cases ch m a b (plw c o w) k j <;> rfl
      · have hlk : led m a b c o w k = true := by
          unfold led
          rw [hp, Bool.true_and, decide_eq_true_eq]
          exact Nat.not_le.mp (fun q => y (nI_le q (Nat.lt_of_le_of_lt l2 (show m < 2 ^ 31 by omega))))
        have hkl : k = L := by
          by_cases q : k < L
          · rw [h0 k q] at hlk; cases hlk
          · omega
        rw [hkl]; exact h
  · rintro rec r ⟨hkL, rfl⟩
    omega
theorem sm_longerChain (M : RM n m a b c σ) (W : Wf n m a b) {o w L : Nat} (ho : o < 9) (hw : w < 9) (hL : L < m) (h1 : led m a b c o w L = true) (h0 : ∀ j, j < L → led m a b c o w j = false) {Q : Int32 → kk_St → Prop} (h : ∀ τ, frF [] [9] σ τ → Q (mk (ch m a b (plw c o w) L) m) τ) : f_X11_longerChain (nI o) (nI w) σ Q := by
  have hm := W.2.2.1
  have hn := W.2.1
  unfold f_X11_longerChain
  refine lf_2_0 m (by omega) (fun k τ => k ≤ L ∧ frF [] [9] σ τ) (k0 := 0) (by omega) ⟨by omega, frF_rf⟩ ?_ ?_
  · rintro rec k τ hk ⟨hkL, F⟩ hrec
    have M2 := RM_fr M F (by simp) (by simp)
    have hw' := W.2.2.2.1 k hk
    refine br_f (by rw [M2.2.1]; exact nI_ge hk (by omega)) ⟨vp_lt (by omega) (by omega), ?_⟩
    dsimp only [kk_j1, kk_j0]
    rw [rd_nI (by omega), M2.2.2.2.2 k hk]
    have hPk : plw c o w k = (decide (c k = nI o) || decide (c k = nI w)) := rfl
    have go : plw c o w k = true → vp_in (nI k) 20 ∧ f_X11_chainIn 3 20 (kk_rd τ 1 (nI k)) (nI o) (nI w) τ (fun r_7 σ_8 => f_X11_manyWith r_7 (nI o) σ_8 (fun r_9 => f_X11_manyWith r_7 (nI w) σ_8 (fun r_10 => (r_9 ≤ r_10 → rec (nI k + 1) σ_8) ∧ (¬ r_9 ≤ r_10 → Q r_7 σ_8)))) := by
      intro hp
      refine ⟨vp_lt (by omega) (by omega), ?_⟩
      rw [rd_nI (by omega), M2.2.2.1 k hk]
      refine sm_chainIn M2 W (by decide) M2.2.2.2.2 (by omega) (fun τ3 F3 _ => ?_)
      have M3 := RM_fr M2 F3 (by simp) (by simp)
      have er : mk (rch m a b (fun k => decide (c k = nI o) || decide (c k = nI w)) (fun l => inc a b l (a k))) m = mk (ch m a b (plw c o w) k) m := mk_cong (fun l hl => (rch_post (P := plw c o w) hk hp (inc_iff.mpr (Or.inl rfl)) l hl).symm)
      rw [er]
      refine sm_manyWith M3 W ?_
      refine sm_manyWith M3 W ?_
      have ct : ∀ x : Int32, fb_ct (fun j => bt (mk (ch m a b (plw c o w) k) m) j && decide (c j = x)) m = fb_ct (fun j => ch m a b (plw c o w) k j && decide (c j = x)) m := fun x => fb_ct_cong (fun j hj => by rw [mk_bt _ _ (by omega)]; simp [hj])
      rw [ct, ct]
      have l1 := fb_ct_le (fun j => ch m a b (plw c o w) k j && decide (c j = nI o)) m
      have l2 := fb_ct_le (fun j => ch m a b (plw c o w) k j && decide (c j = nI w)) m
      refine ⟨fun y => hrec _ ⟨?_, frF_tr F F3⟩, fun y => ?_⟩
      · by_cases hkl : k = L
        · exfalso
          rw [← hkl] at h1
          unfold led at h1
          rw [hp, Bool.true_and, decide_eq_true_eq] at h1
          exact nI_ge h1 (by omega) y
        · omega
      · have hlk : led m a b c o w k = true := by
          unfold led
          rw [hp, Bool.true_and, decide_eq_true_eq]
          exact Nat.not_le.mp (fun q => y (nI_le q (Nat.lt_of_le_of_lt l2 (show m < 2 ^ 31 by omega))))
        have hkl : k = L := by
          by_cases q : k < L
          · rw [h0 k q] at hlk; cases hlk
          · omega
        rw [hkl]; exact h τ3 (frF_tr F F3)
    by_cases h1' : c k = nI o
    · exact br_t h1' (go (by rw [hPk, decide_eq_true h1']; rfl))
    · refine br_f h1' ⟨vp_lt (by omega) (by omega), ?_⟩
      by_cases h3 : c k = nI w
      · exact br_t h3 (go (by rw [hPk, decide_eq_true h3, Bool.or_true]))
      · refine br_f h3 (hrec _ ⟨?_, F⟩)
        by_cases hkl : k = L
        · exfalso
          rw [← hkl] at h1
          unfold led at h1
          rw [hPk, decide_eq_false h1', decide_eq_false h3] at h1
          cases h1
        · omega
  · rintro rec τ ⟨hkL, F⟩
    omega
end
