/-! the reference: what its small methods answer -/
def RM (n m : Nat) (a b : Nat → Nat) (c : Nat → Int32) (σ : kk_St) : Prop := σ.1 0 1 = nI n ∧ σ.1 0 2 = nI m ∧ (∀ k, k < m → σ.1 1 k = nI (a k)) ∧ (∀ k, k < m → σ.1 2 k = nI (b k)) ∧ ∀ k, k < m → σ.1 3 k = c k
theorem vp_lt {k n : Nat} (h : k < n) (hn : n ≤ 20000) : vp_in (nI k) n := vp_in_nI h (by omega)
theorem rd_nI {σ : kk_St} {q k : Nat} (hk : k < 2 ^ 31) : kk_rd σ q (nI k) = σ.1 q k := by rw [kk_rd, nI_clamp hk]
section
variable {n m : Nat} {a b : Nat → Nat} {c : Nat → Int32} {σ : kk_St}
theorem nI_ne {i j : Nat} (hi : i < 2 ^ 31) (hj : j < 2 ^ 31) : nI i = nI j ↔ i = j := nI_eq hi hj
theorem sm_isLine (R : RM n m a b c σ) (hm : m ≤ 20) {v : Int32} {Q : Int32 → Prop} (h : Q (bI (isIx v m))) : f_X11_isLine v σ Q := by
  unfold f_X11_isLine
  rw [R.2.1]
  refine sp_in ?_
  rw [isIx_in (by omega)]
  exact ⟨bI_01 _, h⟩
theorem sm_isPost (R : RM n m a b c σ) (hn : n ≤ 9) {v : Int32} {Q : Int32 → Prop} (h : Q (bI (isIx v n))) : f_X11_isPost v σ Q := by
  unfold f_X11_isPost
  rw [R.1]
  refine sp_in ?_
  rw [isIx_in (by omega)]
  exact ⟨bI_01 _, h⟩
theorem sm_allLines (R : RM n m a b c σ) (hm : m ≤ 20) {Q : Int32 → Prop} (h : Q (mk (fun _ => true) m)) : f_X11_allLines σ Q := by
  unfold f_X11_allLines
  rw [R.2.1, mk_ones (by omega)]
  exact h
theorem sm_allPosts (R : RM n m a b c σ) (hn : n ≤ 9) {Q : Int32 → Prop} (h : Q (mk (fun _ => true) n)) : f_X11_allPosts σ Q := by
  unfold f_X11_allPosts
  rw [R.1, mk_ones (by omega)]
  exact h
theorem sm_isAtV (R : RM n m a b c σ) (hm : m ≤ 20) {k : Nat} (hk : k < m) {v : Int32} {Q : Int32 → Prop} (h : Q (bI (decide (nI (a k) = v) || decide (nI (b k) = v)))) : f_X11_isAt (nI k) v σ Q := by
  unfold f_X11_isAt
  dsimp only [kk_j1, kk_j0]
  rw [rd_nI (by omega), rd_nI (by omega), R.2.2.1 k hk, R.2.2.2.1 k hk]
  refine ⟨vp_lt (by omega) (by omega), ?_⟩
  by_cases h1 : nI (a k) = v
  · rw [decide_eq_true h1, Bool.true_or, bI_t] at h
    exact ⟨fun _ => ⟨Or.inr rfl, h⟩, fun z => absurd h1 z⟩
  · refine ⟨fun z => absurd z h1, fun _ => ⟨vp_lt (by omega) (by omega), ?_⟩⟩
    by_cases h2 : nI (b k) = v
    · rw [decide_eq_true h2, Bool.or_true, bI_t] at h
      exact ⟨fun z => absurd h2 z, fun _ => ⟨Or.inr rfl, h⟩⟩
    · rw [decide_eq_false h1, decide_eq_false h2, Bool.or_false, bI_f] at h
      exact ⟨fun _ => ⟨Or.inl rfl, h⟩, fun z => absurd z h2⟩
theorem inc_dec (W : Wf n m a b) {k p : Nat} (hk : k < m) (hp : p < 32) : (decide (nI (a k) = nI p) || decide (nI (b k) = nI p)) = inc a b k p := by
  have h := W.2.2.2.1 k hk
  have h9 := W.2.1
  unfold inc
  congr 1
  · apply decide_eq_decide.mpr; exact nI_ne (by omega) (by omega)
  · apply decide_eq_decide.mpr; exact nI_ne (by omega) (by omega)
theorem sm_isAt (R : RM n m a b c σ) (W : Wf n m a b) {k p : Nat} (hk : k < m) (hp : p < 32) {Q : Int32 → Prop} (h : Q (bI (inc a b k p))) : f_X11_isAt (nI k) (nI p) σ Q := by
  refine sm_isAtV R W.2.2.1 hk ?_
  rw [inc_dec W hk hp]
  exact h
theorem sm_otherEnd (R : RM n m a b c σ) (W : Wf n m a b) {k p : Nat} (hk : k < m) (hi : inc a b k p = true) {Q : Int32 → Prop} (h : Q (nI (if a k = p then b k else a k))) : f_X11_otherEnd (nI k) (nI p) σ Q := by
  have hm := W.2.2.1
  unfold f_X11_otherEnd
  refine ⟨vp_lt (by omega) (by omega), vp_lt (by omega) (by omega), ?_⟩
  rw [rd_nI (by omega), rd_nI (by omega), R.2.2.1 k hk, R.2.2.2.1 k hk, nI_add]
  rcases inc_iff.mp hi with e | e
  · rw [if_pos e] at h
    rw [z_sub (by omega), show a k + b k - p = b k by omega]
    exact h
  · have := W.2.2.2.1 k hk
    rw [if_neg (by omega)] at h
    rw [z_sub (by omega), show a k + b k - p = a k by omega]
    exact h
theorem sm_linesAt (R : RM n m a b c σ) (W : Wf n m a b) {x : Int32} {p : Nat} (hp : p < 32) {Q : Int32 → Prop} (h : Q (nI (dgS m a b (bt x) p))) : f_X11_linesAt (nI p) x σ Q := by
  have hm := W.2.2.1
  unfold f_X11_linesAt
  refine lf_2_1 m (by omega) (fun k v => v = nI (fb_ct (fun j => bt x j && inc a b j p) k)) (Nat.zero_le _) rfl ?_ ?_
  · intro rec k v hk hv hrec
    subst hv
    refine br_f (by rw [R.2.1]; exact nI_ge hk (by omega)) ?_
    refine sp_has (by omega) ?_
    rw [bI_ite]
    dsimp only [kk_j1]
    refine bI_zn (fun hb => ?_) (fun hb => ?_)
    · refine hrec _ ?_
      rw [fb_ct_succ, hb]; simp
    · refine sm_isAt R W hk hp ?_
      refine bI_zn (fun hc => ?_) (fun hc => ?_)
      · refine hrec _ ?_
        rw [fb_ct_succ, hc]; simp
      · refine hrec _ ?_
        rw [fb_ct_succ, hc, hb, nI_1]; simp
  · intro rec v hv
    subst hv
    exact br_t (by rw [R.2.1]; exact nI_le (Nat.le_refl _) (by omega)) h
theorem sm_degreeOf (R : RM n m a b c σ) (W : Wf n m a b) {x : Int32} {Q : Int32 → Prop} (h : Q (nI (DgS n m a b (bt x)))) : f_X11_degreeOf x σ Q := by
  have hm := W.2.2.1
  have hn := W.2.1
  unfold f_X11_degreeOf
  have hle : ∀ p, dgS m a b (bt x) p ≤ m := fun p => fb_ct_le _ _
  refine lf_2_1 n (by omega) (fun k v => v = nI (mx (dgS m a b (bt x)) k)) (Nat.zero_le _) rfl ?_ ?_
  · intro rec k v hk hv hrec
    subst hv
    refine br_f (by rw [R.1]; exact nI_ge hk (by omega)) ?_
    refine sm_linesAt R W (by omega) ?_
    dsimp only [kk_j1]
    have hx : mx (dgS m a b (bt x)) k ≤ m := mx_le (fun p _ => hle p)
    have hy := hle k
    by_cases hc : mx (dgS m a b (bt x)) k < dgS m a b (bt x) k
    · refine br_f (nI_ge hc (by omega)) ?_
      refine hrec _ ?_
      rw [mx, if_pos hc]
    · refine br_t (nI_le (by omega) (by omega)) ?_
      refine hrec _ ?_
      rw [mx, if_neg hc]
  · intro rec v hv
    subst hv
    exact br_t (by rw [R.1]; exact nI_le (Nat.le_refl _) (by omega)) h
theorem DgS_all {x : Int32} (hx : x = mk (fun _ => true) m) (hm : m ≤ 20) : DgS n m a b (bt x) = Dg n m a b := by
  subst hx
  refine mx_cong (fun p _ => ?_)
  refine fb_ct_cong (fun k hk => ?_)
  rw [mk_bt _ _ (by omega)]
  simp [hk]
theorem sm_degree (R : RM n m a b c σ) (W : Wf n m a b) {Q : Int32 → Prop} (h : Q (nI (Dg n m a b))) : f_X11_degree σ Q := by
  have hm := W.2.2.1
  unfold f_X11_degree
  refine sm_allLines R hm ?_
  refine sm_degreeOf R W ?_
  rw [DgS_all rfl hm]
  exact h
theorem sm_isColour (R : RM n m a b c σ) (W : Wf n m a b) {v : Int32} {Q : Int32 → Prop} (h : Q (bI (isIx v (Dg n m a b + 1)))) : f_X11_isColour v σ Q := by
  have := Dg_le8 W
  unfold f_X11_isColour
  refine sm_degree R W ?_
  refine sp_in ?_
  rw [isIx_in2 (by omega)]
  exact ⟨bI_01 _, h⟩
theorem sm_areColours (R : RM n m a b c σ) (W : Wf n m a b) {v w : Int32} {Q : Int32 → Prop} (h : Q (bI (isIx v (Dg n m a b + 1) && (isIx w (Dg n m a b + 1) && !decide (v = w))))) : f_X11_areColours v w σ Q := by
  unfold f_X11_areColours
  refine sm_isColour R W ?_
  dsimp only [kk_j1, kk_j0]
  refine bI_zn (fun h1 => ?_) (fun h1 => ?_)
  · rw [h1] at h; exact ⟨Or.inl rfl, h⟩
  · rw [h1] at h
    refine sm_isColour R W ?_
    refine bI_zn (fun h2 => ?_) (fun h2 => ?_)
    · rw [h2] at h; exact ⟨Or.inl rfl, h⟩
    · rw [h2] at h
      by_cases h3 : v = w
      · rw [decide_eq_true h3] at h
        exact br_t h3 ⟨Or.inl rfl, h⟩
      · rw [decide_eq_false h3] at h
        exact br_f h3 ⟨Or.inr rfl, h⟩
theorem sm_isChain (R : RM n m a b c σ) (W : Wf n m a b) {u v w : Int32} {Q : Int32 → Prop} (h : Q (bI (isIx u n && (isIx v (Dg n m a b + 1) && (isIx w (Dg n m a b + 1) && !decide (v = w)))))) : f_X11_isChain u v w σ Q := by
  unfold f_X11_isChain
  refine sm_isPost R W.2.1 ?_
  dsimp only [kk_j1, kk_j0]
  refine bI_zn (fun h1 => ?_) (fun h1 => ?_)
  · rw [h1] at h; exact ⟨Or.inl rfl, h⟩
  · rw [h1] at h
    refine sm_areColours R W ?_
    rw [Bool.true_and] at h
    generalize (isIx v (Dg n m a b + 1) && (isIx w (Dg n m a b + 1) && !decide (v = w))) = z at *
    refine bI_zn (fun h2 => ?_) (fun h2 => ?_)
    · subst h2; exact ⟨Or.inl rfl, h⟩
    · subst h2; exact ⟨Or.inr rfl, h⟩
theorem sm_lineWith (R : RM n m a b c σ) (W : Wf n m a b) {p : Nat} (hp : p < 32) {v : Int32} {Q : Int32 → Prop} (h : Q (fI (fun k => inc a b k p && decide (c k = v)) m)) : f_X11_lineWith (nI p) v σ Q := by
  have hm := W.2.2.1
  unfold f_X11_lineWith
  refine lf_1_0 m (by omega) (fun k => ∀ j, j < k → (inc a b j p && decide (c j = v)) = false) (Nat.zero_le _) (fun j hj => absurd hj (Nat.not_lt_zero _)) ?_ ?_
  · intro rec k hk hI hrec
    refine br_f (by rw [R.2.1]; exact nI_ge hk (by omega)) ?_
    refine sm_isAt R W hk hp ?_
    dsimp only [kk_j0]
    have hstep : (inc a b k p && decide (c k = v)) = false → rec (nI k + 1) := fun hz => hrec (fun j hj => by
      by_cases hjk : j = k
      · subst hjk; exact hz
      · exact hI j (by omega))
    refine bI_zn (fun h1 => hstep (by rw [h1]; rfl)) (fun h1 => ?_)
    refine ⟨vp_lt (by omega) (by omega), ?_⟩
    rw [rd_nI (by omega), R.2.2.2.2 k hk]
    by_cases h2 : c k = v
    · refine jn_f h2 ?_
      rw [fI_at hk (by rw [h1, decide_eq_true h2]; rfl) hI] at h
      exact h
    · exact jn_t h2 (hstep (by rw [decide_eq_false h2, Bool.and_false]))
  · intro rec hI
    rw [fI_none hI] at h
    exact br_t (by rw [R.2.1]; exact nI_le (Nat.le_refl _) (by omega)) h
theorem sm_isFreeAt (R : RM n m a b c σ) (W : Wf n m a b) {p : Nat} (hp : p < 32) {v : Int32} {Q : Int32 → Prop} (h : Q (bI (!usd m a b c p v))) : f_X11_isFreeAt (nI p) v σ Q := by
  have hm := W.2.2.1
  unfold f_X11_isFreeAt
  refine sm_lineWith R W hp ?_
  dsimp only [kk_j1]
  have he := fI_ne (P := fun k => inc a b k p && decide (c k = v)) (m := m) (by omega)
  by_cases h1 : fI (fun k => inc a b k p && decide (c k = v)) m = -1
  · refine jn_f h1 ?_
    have h2 := he.mp h1
    unfold usd at h
    rw [h2] at h
    exact ⟨Or.inr rfl, h⟩
  · refine jn_t h1 ?_
    have h2 : anyb (fun k => inc a b k p && decide (c k = v)) m = true := by
      cases hz : anyb (fun k => inc a b k p && decide (c k = v)) m with
      | true => rfl
      | false => exact absurd (he.mpr hz) h1
    unfold usd at h
    rw [h2] at h
    exact ⟨Or.inl rfl, h⟩
theorem sm_manyWith (R : RM n m a b c σ) (W : Wf n m a b) {x v : Int32} {Q : Int32 → Prop} (h : Q (nI (fb_ct (fun k => bt x k && decide (c k = v)) m))) : f_X11_manyWith x v σ Q := by
  have hm := W.2.2.1
  unfold f_X11_manyWith
  refine lf_2_1 m (by omega) (fun k w => w = nI (fb_ct (fun k => bt x k && decide (c k = v)) k)) (Nat.zero_le _) rfl ?_ ?_
  · intro rec k w hk hw hrec
    subst hw
    refine br_f (by rw [R.2.1]; exact nI_ge hk (by omega)) ?_
    refine sp_has (by omega) ?_
    rw [bI_ite]
    dsimp only [kk_j1]
    refine bI_zn (fun hb => ?_) (fun hb => ?_)
    · refine hrec _ ?_
      rw [fb_ct_succ, hb]; simp
    · refine ⟨vp_lt (by omega) (by omega), ?_⟩
      rw [rd_nI (by omega), R.2.2.2.2 k hk]
      by_cases h2 : c k = v
      · refine jn_f h2 ?_
        refine hrec _ ?_
        rw [fb_ct_succ, hb, decide_eq_true h2, nI_1]; simp
      · refine jn_t h2 ?_
        refine hrec _ ?_
        rw [fb_ct_succ, hb, decide_eq_false h2]; simp
  · intro rec w hw
    subst hw
    exact br_t (by rw [R.2.1]; exact nI_le (Nat.le_refl _) (by omega)) h
/-- colours of a post's lines, as bits -/
theorem sm_usedAt (R : RM n m a b c σ) (W : Wf n m a b) (hc : ∀ k, k < m → c k = -1 ∨ ∃ q, q < 9 ∧ c k = nI q) {p : Nat} (hp : p < 32) {Q : Int32 → Prop} (h : Q (mk (fun q => usd m a b c p (nI q)) 9)) : f_X11_usedAt (nI p) σ Q := by
  have hm := W.2.2.1
  unfold f_X11_usedAt
  refine lf_2_1 m (by omega) (fun k w => w = mk (fun q => usd k a b c p (nI q)) 9) (Nat.zero_le _) (mk_0 9).symm ?_ ?_
  · intro rec k w hk hw hrec
    subst hw
    refine br_f (by rw [R.2.1]; exact nI_ge hk (by omega)) ?_
    refine sm_isAt R W hk hp ?_
    dsimp only [kk_j1]
    refine bI_zn (fun hb => ?_) (fun hb => ?_)
    · refine hrec _ (mk_cong (fun q _ => ?_))
      show _ = (usd k a b c p (nI q) || (inc a b k p && decide (c k = nI q)))
      rw [hb]; simp
    · refine ⟨vp_lt (by omega) (by omega), ?_⟩
      rw [rd_nI (by omega), R.2.2.2.2 k hk]
      rcases hc k hk with h1 | ⟨q, hq, h1⟩
      · refine br_t (by rw [h1]; decide) ?_
        refine hrec _ (mk_cong (fun q hq => ?_))
        show _ = (usd k a b c p (nI q) || (inc a b k p && decide (c k = nI q)))
        rw [h1, decide_eq_false (fun z => nI_ne_m1 (by omega) z.symm)]; simp
      · refine br_f (by rw [h1]; exact nI_pos (by omega)) ?_
        refine ⟨vp_lt (by omega) (by omega), ?_⟩
        intro w hw
        refine hrec _ ?_
        rw [hw, h1, mk_set hq (by omega)]
        refine mk_cong (fun j hj => ?_)
        show _ = (usd k a b c p (nI j) || (inc a b k p && decide (c k = nI j)))
        rw [hb, h1, Bool.true_and]
        congr 1
        apply decide_eq_decide.mpr
        rw [nI_ne (by omega) (by omega)]
        omega
  · intro rec w hw
    subst hw
    exact br_t (by rw [R.2.1]; exact nI_le (Nat.le_refl _) (by omega)) h
end
