/-! the class: network and colouring as they lie, and what small methods answer -/
def adj (m : Nat) (a b : Nat → Nat) (p q : Nat) : Bool := !decide (p = q) && anyb (fun k => inc a b k p && inc a b k q) m
def RN (n m : Nat) (a b : Nat → Nat) (σ : kk_St) : Prop := σ.1 1 5 = nI n ∧ σ.1 1 6 = nI m ∧ σ.1 1 7 = nI (Dg n m a b) ∧ (∀ k, k < m → σ.1 11 k = nI (a k)) ∧ (∀ k, k < m → σ.1 12 k = nI (b k)) ∧ (∀ k, k < m → σ.1 13 k = mk (mts a b k) m) ∧ (∀ p, p < 9 → σ.1 14 p = mk (fun k => inc a b k p) m) ∧ ∀ p, p < 9 → σ.1 15 p = mk (adj m a b p) 9
def RK (m : Nat) (c : Nat → Int32) (σ : kk_St) : Prop := (∀ k, k < 20 → σ.1 16 k = if k < m then c k else -1) ∧ ∀ q, q < 9 → σ.1 17 q = mk (fun k => decide (c k = nI q)) m
theorem kk_max_nI {x y : Nat} (hx : x < 2 ^ 31) (hy : y < 2 ^ 31) : kk_max (nI x) (nI y) = nI (if y > x then y else x) := by
  unfold kk_max
  by_cases h : x < y
  · rw [if_pos (nI_lt h hy), if_pos h]
  · rw [if_neg (nI_nlt (by omega) hx), if_neg h]
theorem kk_min_nI {x y : Nat} (hx : x < 2 ^ 31) (hy : y < 2 ^ 31) : kk_min (nI x) (nI y) = nI (if y < x then y else x) := by
  unfold kk_min
  by_cases h : y < x
  · rw [if_pos (nI_lt h hx), if_pos h]
  · rw [if_neg (nI_nlt (by omega) hy), if_neg h]
theorem isIx_br {v : Int32} {m : Nat} (hm : m < 2 ^ 31) : isIx v m = (!decide (v < 0) && !decide (nI m ≤ v)) := by
  simp only [isIx, Int32.lt_iff_toInt_lt, Int32.le_iff_toInt_le, nI_toInt hm, show (0 : Int32).toInt = 0 from rfl]
  by_cases h1 : v.toInt < 0
  · have : ¬ 0 ≤ v.toInt := by omega
    simp [h1, this]
  · have h2 : 0 ≤ v.toInt := by omega
    by_cases h3 : (m : Int) ≤ v.toInt
    · have : ¬ v.toInt < (m : Int) := by omega
      simp [h1, h2, h3, this]
    · have : v.toInt < (m : Int) := by omega
      simp [h1, h2, h3, this]
theorem range2 {v : Int32} {m : Nat} (hm : m < 2 ^ 31) {Q : Int32 → Prop} (h : Q (bI (isIx v m))) : (v < 0 → ((0 : Int32) = 0 ∨ (0 : Int32) = 1) ∧ Q 0) ∧ (¬ v < 0 → (nI m ≤ v → ((0 : Int32) = 0 ∨ (0 : Int32) = 1) ∧ Q 0) ∧ (¬ nI m ≤ v → ((1 : Int32) = 0 ∨ (1 : Int32) = 1) ∧ Q 1)) := by
  rw [isIx_br hm] at h
  refine ⟨fun z => ?_, fun z => ⟨fun y => ?_, fun y => ?_⟩⟩
  · rw [decide_eq_true z] at h; exact ⟨Or.inl rfl, h⟩
  · rw [decide_eq_true y, Bool.not_true, Bool.and_false] at h; exact ⟨Or.inl rfl, h⟩
  · rw [decide_eq_false z, decide_eq_false y] at h; exact ⟨Or.inr rfl, h⟩
section
variable {n m : Nat} {a b : Nat → Nat} {c : Nat → Int32} {σ : kk_St}
theorem sc_isLine (R : RN n m a b σ) (hm : m ≤ 20) {v : Int32} {Q : Int32 → Prop} (h : Q (bI (isIx v m))) : f_X6_isLine v σ Q := by
  unfold f_X6_isLine
  dsimp only [kk_j1, kk_j0]
  rw [R.2.1]
  exact range2 (by omega) h
theorem sc_isPost (R : RN n m a b σ) (hn : n ≤ 9) {v : Int32} {Q : Int32 → Prop} (h : Q (bI (isIx v n))) : f_X6_isPost v σ Q := by
  unfold f_X6_isPost
  dsimp only [kk_j1, kk_j0]
  rw [R.1]
  exact range2 (by omega) h
theorem sc_allLines (R : RN n m a b σ) (hm : m ≤ 20) {Q : Int32 → Prop} (h : Q (mk (fun _ => true) m)) : f_X6_allLines σ Q := by
  unfold f_X6_allLines
  rw [R.2.1, mk_ones (by omega)]
  exact h
theorem sc_allPosts (R : RN n m a b σ) (hn : n ≤ 9) {Q : Int32 → Prop} (h : Q (mk (fun _ => true) n)) : f_X6_allPosts σ Q := by
  unfold f_X6_allPosts
  rw [R.1, mk_ones (by omega)]
  exact h
theorem sc_isColour (R : RN n m a b σ) (W : Wf n m a b) {v : Int32} {Q : Int32 → Prop} (h : Q (bI (isIx v (Dg n m a b + 1)))) : f_X3_isColour v σ Q := by
  have := Dg_le8 W
  unfold f_X3_isColour f_X3_colours
  dsimp only [kk_j1, kk_j0]
  rw [R.2.2.1, nI_1]
  exact range2 (by omega) h
theorem sc_areUnlike (R : RN n m a b σ) (W : Wf n m a b) {v w : Int32} {Q : Int32 → Prop} (h : Q (bI (isIx v (Dg n m a b + 1) && (isIx w (Dg n m a b + 1) && !decide (v = w))))) : f_X3_areUnlike v w σ Q := by
  unfold f_X3_areUnlike
  refine sc_isColour R W ?_
  dsimp only [kk_j1, kk_j0]
  refine bI_zn (fun h1 => ?_) (fun h1 => ?_)
  · rw [h1] at h; exact ⟨Or.inl rfl, h⟩
  · rw [h1] at h
    refine sc_isColour R W ?_
    refine bI_zn (fun h2 => ?_) (fun h2 => ?_)
    · rw [h2] at h; exact ⟨Or.inl rfl, h⟩
    · rw [h2] at h
      by_cases h3 : v = w
      · rw [decide_eq_true h3] at h
        exact br_t h3 ⟨Or.inl rfl, h⟩
      · rw [decide_eq_false h3] at h
        exact br_f h3 ⟨Or.inr rfl, h⟩
theorem sc_farEnd (R : RN n m a b σ) (W : Wf n m a b) {k p : Nat} (hk : k < m) (hp : p < 32) {Q : Int32 → Prop} (h : Q (nI (if a k = p then b k else a k))) : f_X6_farEnd (nI k) (nI p) σ Q := by
  have hm := W.2.2.1
  have h9 := W.2.1
  have hw := W.2.2.2.1 k hk
  unfold f_X6_farEnd
  dsimp only [kk_j1]
  rw [rd_nI (by omega), rd_nI (by omega), R.2.2.2.1 k hk, R.2.2.2.2.1 k hk]
  refine ⟨vp_lt (by omega) (by omega), ?_⟩
  by_cases e : a k = p
  · rw [if_pos e] at h
    exact jn_f (by rw [e]) ⟨vp_lt (by omega) (by omega), h⟩
  · rw [if_neg e] at h
    exact jn_t (by rw [nI_ne (by omega) (by omega)]; exact e) ⟨vp_lt (by omega) (by omega), h⟩
/-- the first bit of a mask by Java's way, or none -/
theorem sc_fst {P : Nat → Bool} (hm : m ≤ 30) {Q : Int32 → Prop} (h : Q (fI P m)) : ((¬ mk P m = 0 → f_J6_numberOfTrailingZeros_0f7a4 (mk P m) (fun r => Q r)) ∧ (mk P m = 0 → Q (-1))) := by
  rcases fst_ex P m with ⟨t, ht, h1, h0⟩ | h0
  · rw [fI_at ht h1 h0] at h
    have hne : ¬ mk P m = 0 := fun z => by
      have := (mk_eq0 (by omega)).mp z t ht
      rw [h1] at this; cases this
    exact jn_t hne (sp_ntzM hm ht h1 h0 h)
  · rw [fI_none h0] at h
    exact jn_f ((mk_eq0 (by omega)).mpr h0) h
theorem sc_lineBetween (R : RN n m a b σ) (hm : m ≤ 20) {p q : Nat} (hp : p < 9) (hq : q < 9) {Q : Int32 → Prop} (h : Q (fI (fun k => inc a b k p && inc a b k q) m)) : f_X6_lineBetween (nI p) (nI q) σ Q := by
  unfold f_X6_lineBetween
  refine ⟨vp_lt hp (by omega), vp_lt hq (by omega), ?_⟩
  intro v hv
  rw [rd_nI (by omega), rd_nI (by omega), R.2.2.2.2.2.2.1 p hp, R.2.2.2.2.2.2.1 q hq, mk_and] at hv
  subst hv
  exact sc_fst (by omega) h
theorem sc_lineWith (R : RN n m a b σ) (K : RK m c σ) (hm : m ≤ 20) {p q : Nat} (hp : p < 9) (hq : q < 9) {Q : Int32 → Prop} (h : Q (fI (fun k => inc a b k p && decide (c k = nI q)) m)) : f_X3_lineWith (nI p) (nI q) σ Q := by
  unfold f_X3_lineWith
  refine ⟨vp_lt hp (by omega), vp_lt hq (by omega), ?_⟩
  intro v hv
  rw [rd_nI (by omega), rd_nI (by omega), R.2.2.2.2.2.2.1 p hp, K.2 q hq, mk_and] at hv
  subst hv
  exact sc_fst (by omega) h
theorem sc_mostAtOnePost (R : RN n m a b σ) (hn : n ≤ 9) (hm : m ≤ 20) {S : Nat → Bool} {Q : Int32 → Prop} (h : Q (nI (DgS n m a b S))) : f_X6_mostAtOnePost (mk S m) σ Q := by
  unfold f_X6_mostAtOnePost
  have hle : ∀ p, dgS m a b S p ≤ m := fun p => fb_ct_le _ _
  refine lf_2_1 n (by omega) (fun k v => v = nI (mx (dgS m a b S) k)) (Nat.zero_le _) rfl ?_ ?_
  · intro rec k v hk hv hrec
    subst hv
    refine br_f (by rw [R.1]; exact nI_ge hk (by omega)) ⟨vp_lt (by omega) (by omega), ?_⟩
    rw [rd_nI (by omega), R.2.2.2.2.2.2.1 k (by omega), mk_and]
    refine sp_bitCountM (by omega) ?_
    have hx : mx (dgS m a b S) k ≤ m := mx_le (fun p _ => hle p)
    have hy := hle k
    have he : fb_ct (fun j => inc a b j k && S j) m = dgS m a b S k := fb_ct_cong (fun j _ => Bool.and_comm _ _)
    rw [he]
    refine hrec _ ?_
    rw [kk_max_nI (by omega) (by omega)]
    rfl
  · intro rec v hv
    subst hv
    exact br_t (by rw [R.1]; exact nI_le (Nat.le_refl _) (by omega)) h
theorem sc_postsOf (R : RN n m a b σ) (hn : n ≤ 9) (hm : m ≤ 20) {S : Nat → Bool} {Q : Int32 → Prop} (h : Q (mk (fun p => anyb (fun k => S k && inc a b k p) m) n)) : f_X6_postsOf (mk S m) σ Q := by
  unfold f_X6_postsOf
  refine lf_2_1 n (by omega) (fun k v => v = mk (fun p => anyb (fun k => S k && inc a b k p) m) k) (Nat.zero_le _) rfl ?_ ?_
  · intro rec k v hk hv hrec
    subst hv
    refine br_f (by rw [R.1]; exact nI_ge hk (by omega)) ⟨vp_lt (by omega) (by omega), ?_⟩
    rw [rd_nI (by omega), R.2.2.2.2.2.2.1 k (by omega), mk_and]
    dsimp only [kk_j1]
    have hp := mk_push (fun p => anyb (fun k => S k && inc a b k p) m) (n := k) (by omega)
    cases ha : anyb (fun j => S j && inc a b j k) m with
    | true =>
      obtain ⟨j, hj, hj2⟩ := anyb_iff.mp ha
      refine br_f (fun z => ?_) ?_
      · have := (mk_eq0 (by omega)).mp z j hj
        rw [Bool.and_comm, hj2] at this; cases this
      · intro w hw
        refine hrec _ ?_
        rw [hw, ← hp, if_pos ha]
    | false =>
      refine br_t ((mk_eq0 (by omega)).mpr (fun j hj => by rw [Bool.and_comm]; exact anyb_no.mp ha j hj)) ?_
      refine hrec _ ?_
      rw [← hp, if_neg (by rw [ha]; decide)]
  · intro rec v hv
    subst hv
    exact br_t (by rw [R.1]; exact nI_le (Nat.le_refl _) (by omega)) h
theorem sc_coloursAt (R : RN n m a b σ) (K : RK m c σ) (hm : m ≤ 20) {p : Nat} (hp : p < 9) {Q : Int32 → Prop} (h : Q (mk (fun q => usd m a b c p (nI q)) 9)) : f_X3_coloursAt (nI p) σ Q := by
  unfold f_X3_coloursAt
  refine lf_2_1 9 (by omega) (fun k v => v = mk (fun q => usd m a b c p (nI q)) k) (Nat.zero_le _) rfl ?_ ?_
  · intro rec k v hk hv hrec
    subst hv
    refine br_f (nI_ge (b := 9) hk (by omega)) ⟨vp_lt (by omega) (by omega), vp_lt hp (by omega), ?_⟩
    rw [rd_nI (by omega), rd_nI (by omega), R.2.2.2.2.2.2.1 p hp, K.2 k hk, mk_and]
    dsimp only [kk_j1]
    have hpu := mk_push (fun q => usd m a b c p (nI q)) (n := k) (by omega)
    cases ha : usd m a b c p (nI k) with
    | true =>
      obtain ⟨j, hj, hj2⟩ := anyb_iff.mp ha
      refine br_f (fun z => ?_) ?_
      · have := (mk_eq0 (by omega)).mp z j hj
        rw [Bool.and_comm, hj2] at this; cases this
      · intro w hw
        refine hrec _ ?_
        rw [hw, ← hpu, if_pos ha]
    | false =>
      refine br_t ((mk_eq0 (by omega)).mpr (fun j hj => by rw [Bool.and_comm]; exact anyb_no.mp ha j hj)) ?_
      refine hrec _ ?_
      rw [← hpu, if_neg (by rw [ha]; decide)]
  · intro rec v hv
    subst hv
    exact br_t (nI_le (a := 9) (Nat.le_refl _) (by omega)) h
theorem sc_freeAt (R : RN n m a b σ) (K : RK m c σ) (W : Wf n m a b) {p : Nat} (hp : p < 9) {Q : Int32 → Prop} (h : Q (mk (fun q => !usd m a b c p (nI q)) (Dg n m a b + 1))) : f_X3_freeAt (nI p) σ Q := by
  have hD := Dg_le8 W
  unfold f_X3_freeAt f_X3_colours
  refine sc_coloursAt R K W.2.2.1 hp ?_
  rw [R.2.2.1, nI_1, mk_ones (by omega)]
  have e : mk (fun _ => true) (Dg n m a b + 1) &&& (mk (fun q => usd m a b c p (nI q)) 9 ^^^ (-1 : Int32)) = mk (fun q => !usd m a b c p (nI q)) (Dg n m a b + 1) := mk_ext (fun k hk => by
    rw [b_and, z_not _ hk, mk_bt _ _ hk, mk_bt _ _ hk]
    by_cases h1 : k < Dg n m a b + 1
    · have : k < 9 := by omega
      simp [h1, this]
    · simp [h1])
  rw [e]
  exact h
theorem sc_freeAtBoth (R : RN n m a b σ) (K : RK m c σ) (W : Wf n m a b) {k : Nat} (hk : k < m) {Q : Int32 → Prop} (h : Q (mk (fun q => !usd m a b c (a k) (nI q) && !usd m a b c (b k) (nI q)) (Dg n m a b + 1))) : f_X3_freeAtBoth (nI k) σ Q := by
  have hm := W.2.2.1
  have h9 := W.2.1
  have hw := W.2.2.2.1 k hk
  unfold f_X3_freeAtBoth
  rw [rd_nI (by omega), rd_nI (by omega), R.2.2.2.1 k hk, R.2.2.2.2.1 k hk]
  refine ⟨vp_lt (by omega) (by omega), ?_⟩
  refine sc_freeAt R K W (by omega) ?_
  refine ⟨vp_lt (by omega) (by omega), ?_⟩
  refine sc_freeAt R K W (by omega) ?_
  rw [mk_and]
  exact h
theorem sc_isFreeAt (R : RN n m a b σ) (K : RK m c σ) (W : Wf n m a b) {p q : Nat} (hp : p < 9) (hq : q ≤ Dg n m a b) {Q : Int32 → Prop} (h : Q (bI (!usd m a b c p (nI q)))) : f_X3_isFreeAt (nI p) (nI q) σ Q := by
  have hD := Dg_le8 W
  unfold f_X3_isFreeAt
  refine sc_freeAt R K W hp ?_
  dsimp only [kk_j1]
  have hb : bt (mk (fun q => !usd m a b c p (nI q)) (Dg n m a b + 1)) q = !usd m a b c p (nI q) := by
    rw [mk_bt _ _ (by omega)]
    have : q < Dg n m a b + 1 := by omega
    simp [this]
  rw [z_bit _ (by omega), hb, bI_ite]
  refine bI_zn (fun h1 => ?_) (fun h1 => ?_)
  · rw [h1] at h; exact ⟨Or.inl rfl, h⟩
  · rw [h1] at h; exact ⟨Or.inr rfl, h⟩
end
/-- some colour is free at a post -/
theorem free_ex {n m : Nat} {a b : Nat → Nat} {c : Nat → Int32} {p : Nat} (hp : p < n) (hD : Dg n m a b ≤ 8) : ∃ t, t ≤ Dg n m a b ∧ usd m a b c p (nI t) = false ∧ ∀ j, j < t → usd m a b c p (nI j) = true := by
  rcases fst_ex (fun q => !usd m a b c p (nI q)) (Dg n m a b + 1) with ⟨t, ht, h1, h0⟩ | h0
  · exact ⟨t, by omega, by simpa using h1, fun j hj => by simpa using h0 j hj⟩
  · exfalso
    have hu : ∀ q, q < Dg n m a b + 1 → ∃ k, k < m ∧ inc a b k p = true ∧ c k = nI q := fun q hq => by
      have h := h0 q hq
      simp only [Bool.not_eq_eq_eq_not, Bool.not_false] at h
      obtain ⟨k, hk, hk2⟩ := anyb_iff.mp h
      simp only [Bool.and_eq_true, decide_eq_true_eq] at hk2
      exact ⟨k, hk, hk2.1, hk2.2⟩
    have hle := dg_le_Dg (m := m) (a := a) (b := b) hp
    have := fb_holes (dg m a b p) (Dg n m a b + 1) (fun q => if hq : q < Dg n m a b + 1 then fb_ct (fun k => inc a b k p) (Classical.choose (hu q hq)) else 0) (fun q hq => by
      simp only [dif_pos hq]
      have hs := Classical.choose_spec (hu q hq)
      generalize Classical.choose (hu q hq) = k at hs
      have h1 : fb_ct (fun k => inc a b k p) (k + 1) ≤ fb_ct (fun k => inc a b k p) m := fb_ct_mono _ (by omega)
      rw [fb_ct_succ, hs.2.1] at h1
      simp at h1
      unfold dg
      omega) (fun i j hij hj heq => by
      simp only [dif_pos hj, dif_pos (Nat.lt_trans hij hj)] at heq
      have hs := Classical.choose_spec (hu i (Nat.lt_trans hij hj))
      generalize Classical.choose (hu i (Nat.lt_trans hij hj)) = k at hs heq
      have hs' := Classical.choose_spec (hu j hj)
      generalize Classical.choose (hu j hj) = k' at hs' heq
      have hk := fb_ct_kth_one (p := fun k => inc a b k p) hs.2.1 hs'.2.1 heq
      subst hk
      have := hs.2.2.symm.trans hs'.2.2
      rw [nI_ne (by omega) (by omega)] at this
      omega)
    omega
section
variable {n m : Nat} {a b : Nat → Nat} {c : Nat → Int32} {σ : kk_St}
theorem sc_leastFreeAt (R : RN n m a b σ) (K : RK m c σ) (W : Wf n m a b) {p t : Nat} (hp : p < 9) (ht : t ≤ Dg n m a b) (h1 : usd m a b c p (nI t) = false) (h0 : ∀ j, j < t → usd m a b c p (nI j) = true) {Q : Int32 → Prop} (h : Q (nI t)) : f_X3_leastFreeAt (nI p) σ Q := by
  have hD := Dg_le8 W
  unfold f_X3_leastFreeAt
  refine sc_freeAt R K W hp ?_
  exact sp_ntzM (by omega) (show t < Dg n m a b + 1 by omega) (by rw [h1]; rfl) (fun j hj => by rw [h0 j hj]; rfl) h
theorem sm_leastFreeAt (R : RM n m a b c σ) (W : Wf n m a b) {p t : Nat} (hp : p < 32) (ht : t ≤ Dg n m a b) (h1 : usd m a b c p (nI t) = false) (h0 : ∀ j, j < t → usd m a b c p (nI j) = true) {Q : Int32 → Prop} (h : Q (nI t)) : f_X11_leastFreeAt (nI p) σ Q := by
  have hD := Dg_le8 W
  unfold f_X11_leastFreeAt
  refine lf_1_0 t (by omega) (fun _ => True) (Nat.zero_le _) trivial ?_ ?_
  · intro rec k hk _ hrec
    refine sm_isFreeAt R W hp ?_
    rw [h0 k hk]
    exact jn_f rfl (hrec trivial)
  · intro rec _
    refine sm_isFreeAt R W hp ?_
    rw [h1]
    exact jn_t (by decide) h
end
