/-! pair: idle -/
def lst (P : Nat → Bool) : Nat → Nat
  | 0 => 0
  | n + 1 => if P n then n else lst P n
theorem lst_at {P : Nat → Bool} {t : Nat} : ∀ {n : Nat}, t < n → P t = true → (∀ j, j < n → t < j → P j = false) → lst P n = t
  | 0, h, _, _ => absurd h (Nat.not_lt_zero _)
  | n + 1, h, h1, h0 => by
    rw [lst]
    by_cases ht : t = n
    · subst ht; rw [if_pos h1]
    · rw [h0 n (by omega) (by omega)]
      exact lst_at (by omega) h1 (fun j hj hjt => h0 j (by omega) hjt)
/-- places between the first and the last that are not in it -/
def idl (P : Nat → Bool) : Nat := if anyb P 9 then lst P 9 - fa_first P 9 + 1 - fb_ct P 9 else 0
theorem idl_le (P : Nat → Bool) : idl P ≤ 9 := by
  unfold idl
  rcases last_ex P 9 with ⟨t, ht, h1, h0⟩ | h0
  · rw [lst_at ht h1 h0]
    split <;> omega
  · rw [anyb_no.mpr h0]; simp
theorem idl_cong {P P' : Nat → Bool} (h : ∀ q, q < 9 → P q = P' q) : idl P = idl P' := by
  unfold idl
  rw [anyb_cong h]
  rcases last_ex P 9 with ⟨t, ht, h1, h0⟩ | h0
  · rcases fst_ex P 9 with ⟨t', ht', h1', h0'⟩ | h0'
    · rw [lst_at ht h1 h0, lst_at ht (by rw [← h t ht]; exact h1) (fun j hj hjt => by rw [← h j hj]; exact h0 j hj hjt), first_at ht' h1' h0', first_at ht' (by rw [← h t' ht']; exact h1') (fun j hj => by rw [← h j (by omega)]; exact h0' j hj), fb_ct_cong h]
    · rw [h0' t ht] at h1; cases h1
  · rw [anyb_no.mpr (fun k hk => by rw [← h k hk]; exact h0 k hk)]; rfl
theorem idl_ex {P : Nat → Bool} {t f : Nat} (ht : t < 9) (h1 : P t = true) (h0 : ∀ j, j < 9 → t < j → P j = false) (hf : f < 9) (f1 : P f = true) (f0 : ∀ j, j < f → P j = false) : nI (idl P) = ((nI t - nI f) - nI (fb_ct P 9)) + 1 := by
  have hft : f ≤ t := Nat.not_lt.mp (fun z => by rw [f0 t z] at h1; cases h1)
  unfold idl
  rw [anyb_iff.mpr ⟨t, ht, h1⟩, if_pos rfl, lst_at ht h1 h0, first_at hf f1 f0, z_sub hft]
  have hc : fb_ct P 9 ≤ t - f + 1 := by
    have e1 : fb_ct P 9 = fb_ct P (t + 1) + fb_ct (fun k => P (t + 1 + k)) (8 - t) := by
      rw [← fb_ct_split]; congr 1; omega
    have e2 : fb_ct P (t + 1) = fb_ct P f + fb_ct (fun k => P (f + k)) (t + 1 - f) := by
      rw [← fb_ct_split]; congr 1; omega
    have e3 := fb_ct_le (fun k => P (f + k)) (t + 1 - f)
    have e4 : fb_ct P f = 0 := fb_ct_zero.mpr f0
    have e5 : fb_ct (fun k => P (t + 1 + k)) (8 - t) = 0 := fb_ct_zero.mpr (fun k hk => h0 _ (by omega) (by omega))
    omega
  generalize fb_ct P 9 = B at *
  generalize hA : t - f = A at *
  rw [Int32.sub_eq_add_neg, Int32.add_assoc, Int32.add_comm (-nI B), ← Int32.add_assoc, ← Int32.sub_eq_add_neg, nI_1, z_sub hc]
theorem sp_idleOf {P : Nat → Bool} {Q : Int32 → Prop} (h : Q (nI (idl P))) : f_X10_idleOf (mk P 9) Q := by
  unfold f_X10_idleOf
  rcases last_ex P 9 with ⟨t, ht, h1, h0⟩ | h0
  · rcases fst_ex P 9 with ⟨f, hf, f1, f0⟩ | f0
    · refine jn_t (fun z => ?_) ?_
      · have := (mk_eq0 (by omega)).mp z t ht
        rw [h1] at this; cases this
      · refine sp_greatestBit ht h1 h0 ?_
        refine sp_ntzM (by omega) hf f1 f0 ?_
        refine sp_bitCountM (by omega) ?_
        rw [← idl_ex ht h1 h0 hf f1 f0]
        exact h
    · rw [f0 t ht] at h1; cases h1
  · refine jn_f ((mk_eq0 (by omega)).mpr h0) ?_
    unfold idl at h
    rw [anyb_no.mpr h0] at h
    exact h
def sumN (f : Nat → Nat) : Nat → Nat
  | 0 => 0
  | n + 1 => sumN f n + f n
theorem sumN_le {f : Nat → Nat} {x : Nat} (h : ∀ k, f k ≤ x) : ∀ n, sumN f n ≤ x * n
  | 0 => Nat.zero_le _
  | n + 1 => by
    have := sumN_le h n
    have := h n
    rw [sumN, Nat.mul_succ]; omega
theorem sumN_cong {f g : Nat → Nat} : ∀ {n : Nat}, (∀ k, k < n → f k = g k) → sumN f n = sumN g n
  | 0, _ => rfl
  | n + 1, h => by rw [sumN, sumN, sumN_cong (fun k hk => h k (by omega)), h n (by omega)]
def swp (o w q : Nat) : Nat := if q = o then w else if q = w then o else q
def idA (n m : Nat) (a b : Nat → Nat) (c : Nat → Int32) (o w : Nat) : Nat := sumN (fun p => idl (fun q => usd m a b c p (nI (swp o w q)))) n
theorem idA_le {n m : Nat} {a b : Nat → Nat} {c : Nat → Int32} {o w : Nat} (hn : n ≤ 9) : idA n m a b c o w ≤ 81 := by
  have := sumN_le (f := fun p => idl (fun q => usd m a b c p (nI (swp o w q)))) (x := 9) (fun p => idl_le _) n
  unfold idA
  omega
section
variable {n m : Nat} {a b : Nat → Nat} {c : Nat → Int32} {σ : kk_St}
theorem sm_idleAt (M : RM n m a b c σ) (W : Wf n m a b) (hc : ∀ k, k < m → c k = -1 ∨ ∃ q, q < 9 ∧ c k = nI q) {p : Nat} (hp : p < 9) {Q : Int32 → Prop} (h : Q (nI (idl (fun q => usd m a b c p (nI q))))) : f_X11_idleAt (nI p) σ Q := by
  unfold f_X11_idleAt
  refine sm_usedAt M W hc (by omega) ?_
  generalize (fun q => usd m a b c p (nI q)) = P at *
  rcases last_ex P 9 with ⟨t, ht, h1, h0⟩ | h0
  · rcases fst_ex P 9 with ⟨f, hf, f1, f0⟩ | f0
    · refine jn_t (fun z => ?_) ?_
      · have := (mk_eq0 (by omega)).mp z t ht
        rw [h1] at this; cases this
      · refine sp_lowestOfM (by omega) hf f1 f0 ?_
        have hft : f ≤ t := Nat.not_lt.mp (fun z => by rw [f0 t z] at h1; cases h1)
        refine lf_2_1 20 (by omega) (fun k x => ∃ s, x = nI s ∧ s < 9 ∧ P s = true ∧ ∀ j, j < k → j < 9 → s < j → P j = false) (k0 := f) (by omega) ⟨f, rfl, hf, f1, fun j hj _ hj2 => by omega⟩ ?_ ?_
        · rintro rec k x hk ⟨s, rfl, hs, s1, s0⟩ hrec
          refine br_f (nI_ge (b := 20) hk (by omega)) ?_
          refine sp_has (by omega) ?_
          dsimp only [kk_j1]
          rw [bI_ite]
          refine bI_zn (fun z => ?_) (fun z => ?_)
          · refine hrec _ ⟨s, rfl, hs, s1, fun j hj hj9 hsj => ?_⟩
            by_cases hjk : j = k
            · subst hjk
              rw [mk_bt _ _ (by omega)] at z
              simpa [hj9] using z
            · exact s0 j (by omega) hj9 hsj
          · rw [mk_bt _ _ (by omega), Bool.and_eq_true, decide_eq_true_eq] at z
            exact hrec _ ⟨k, rfl, z.1, z.2, fun j hj _ hkj => by omega⟩
        · rintro rec x ⟨s, rfl, hs, s1, s0⟩
          refine br_t (nI_le (a := 20) (Nat.le_refl _) (by omega)) ?_
          refine sp_lowestOfM (by omega) hf f1 f0 ?_
          refine sp_bitsOfM (by omega) ?_
          rw [← idl_ex hs s1 (fun j hj hsj => s0 j (by omega) hj hsj) hf f1 f0]
          exact h
    · rw [f0 t ht] at h1; cases h1
  · refine jn_f ((mk_eq0 (by omega)).mpr h0) ?_
    unfold idl at h
    rw [anyb_no.mpr h0] at h
    exact h
theorem swp_0 (q : Nat) : swp 0 0 q = q := by unfold swp; by_cases h : q = 0 <;> simp [h]
theorem sm_idleAll (M : RM n m a b c σ) (W : Wf n m a b) (hc : ∀ k, k < m → c k = -1 ∨ ∃ q, q < 9 ∧ c k = nI q) {Q : Int32 → Prop} (h : Q (nI (idA n m a b c 0 0))) : f_X11_idleAll σ Q := by
  have hn := W.2.1
  unfold f_X11_idleAll
  refine lf_2_1 n (by omega) (fun k x => x = nI (sumN (fun p => idl (fun q => usd m a b c p (nI (swp 0 0 q)))) k)) (k0 := 0) (by omega) rfl ?_ ?_
  · rintro rec k x hk rfl hrec
    refine br_f (by rw [M.1]; exact nI_ge hk (by omega)) ?_
    refine sm_idleAt M W hc (by omega) ?_
    refine hrec _ ?_
    have e : idl (fun q => usd m a b c k (nI q)) = idl (fun q => usd m a b c k (nI (swp 0 0 q))) := idl_cong (fun q _ => by rw [swp_0])
    rw [e, nI_add, sumN]
  · rintro rec x rfl
    exact br_t (by rw [M.1]; exact nI_le (Nat.le_refl _) (by omega)) h
theorem sc_idleOfAll (N : RN n m a b σ) (K : RK m c σ) (hn : n ≤ 9) (hm : m ≤ 20) {o w : Nat} (ho : o < 9) (hw : w < 9) {Q : Int32 → Prop} (h : Q (nI (idA n m a b c o w))) : f_X1_idleOfAll (nI o) (nI w) σ Q := by
  unfold f_X1_idleOfAll
  refine lf_2_1 n (by omega) (fun k x => x = nI (sumN (fun p => idl (fun q => usd m a b c p (nI (swp o w q)))) k)) (k0 := 0) (by omega) rfl ?_ ?_
  · rintro rec k x hk rfl hrec
    refine br_f (by rw [N.1]; exact nI_ge hk (by omega)) ?_
    refine sc_coloursAt N K hm (by omega) ?_
    rw [z_bit _ (by omega), z_bit _ (by omega), mk_bt _ _ (by omega), mk_bt _ _ (by omega), bI_ite, bI_ite]
    have eo : (decide (o < 9) && usd m a b c k (nI o)) = usd m a b c k (nI o) := by simp [ho]
    have ew : (decide (w < 9) && usd m a b c k (nI w)) = usd m a b c k (nI w) := by simp [hw]
    rw [eo, ew]
    have fin : ∀ x, x = mk (fun q => usd m a b c k (nI (swp o w q))) 9 → f_X10_idleOf x (fun r => rec (nI (sumN (fun p => idl (fun q => usd m a b c p (nI (swp o w q)))) k) + r) (nI k + 1)) := by
      rintro x rfl
      refine sp_idleOf ?_
      refine hrec _ ?_
      rw [sumN, ← nI_add]
    dsimp only [kk_j1]
    have bii : ∀ x y : Bool, bI x = bI y ↔ x = y := by decide
    refine ⟨fun z => ⟨fun _ => fin _ ?_, fun y => absurd rfl y⟩, fun z => ⟨fun y => absurd y (by decide), fun _ => fin _ ?_⟩⟩
    · have z := (bii _ _).mp z
      refine mk_cong (fun q _ => ?_)
      unfold swp
      by_cases h1 : q = o
      · rw [if_pos h1, h1]; exact z
      · rw [if_neg h1]
        by_cases h2 : q = w
        · rw [if_pos h2, h2]; exact z.symm
        · rw [if_neg h2]
    · have z : usd m a b c k (nI o) ≠ usd m a b c k (nI w) := fun q => z ((bii _ _).mpr q)
      rw [mk_one ho (by omega), mk_one hw (by omega), mk_or, mk_xor]
      refine mk_cong (fun q _ => ?_)
      unfold swp
      by_cases h1 : q = o
      · rw [if_pos h1, h1]
        revert z
        simp only [decide_true, Bool.true_or]
        cases usd m a b c k (nI o) <;> cases usd m a b c k (nI w) <;> simp
      · rw [if_neg h1, decide_eq_false h1]
        by_cases h2 : q = w
        · rw [if_pos h2, h2]
          revert z
          simp only [decide_true, Bool.or_true]
          cases usd m a b c k (nI o) <;> cases usd m a b c k (nI w) <;> simp
        · rw [if_neg h2, decide_eq_false h2]; simp
  · rintro rec x rfl
    exact br_t (by rw [N.1]; exact nI_le (Nat.le_refl _) (by omega)) h
end
theorem q_idle : pr_idle Rel := by
  rintro σ1 σ2 ⟨n, m, a, b, c, kp, ls, kf, gf, W, P, M, N, K, Z⟩ v1
  have hm := W.2.2.1
  have hn := W.2.1
  have hD := Dg_le8 W
  have same : Rel σ1 σ2 := ⟨n, m, a, b, c, kp, ls, kf, gf, W, P, M, N, K, Z⟩
  unfold f_X10_idle
  refine ⟨fun hv => ?_, fun hv => ?_⟩
  · refine sc_isPost N hn ?_
    dsimp only [kk_j1]
    refine bI_zn (fun h1 => ?_) (fun h1 => ?_)
    · unfold f_X11_idle
      refine jn_t hv ?_
      refine sm_isPost M hn ?_
      rw [h1]
      exact br_t rfl ⟨rfl, same⟩
    · obtain ⟨p, hp, rfl⟩ := isIx_ex h1
      refine sc_coloursAt N K hm (by omega) ?_
      refine sp_idleOf ?_
      unfold f_X11_idle
      refine jn_t hv ?_
      refine sm_isPost M hn ?_
      rw [h1]
      refine br_f (by decide) ?_
      exact sm_idleAt M W (Pr9 W P) (by omega) ⟨rfl, same⟩
  · refine sc_idleOfAll (o := 0) (w := 0) N K hn hm (by omega) (by omega) ?_
    unfold f_X11_idle
    refine jn_f hv ?_
    exact sm_idleAll M W (Pr9 W P) ⟨rfl, same⟩
