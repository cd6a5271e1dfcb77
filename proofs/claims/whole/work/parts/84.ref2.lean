/-! the second side's search: what refuses -/
theorem lpG3 {α0 α1 α2 : Type} {F : (α0 → α1 → α2 → Prop) → α0 → α1 → α2 → Prop} (I : Nat → α0 → α1 → α2 → Prop) (hs : ∀ (rec : α0 → α1 → α2 → Prop) (N : Nat) (x0 : α0) (x1 : α1) (x2 : α2), I N x0 x1 x2 → (∀ (N' : Nat) (x0' : α0) (x1' : α1) (x2' : α2), N' < N → I N' x0' x1' x2' → rec x0' x1' x2') → F rec x0 x1 x2) {N : Nat} {x0 : α0} {x1 : α1} {x2 : α2} (h : I N x0 x1 x2) : kk_lp3 F x0 x1 x2 := by
  have key : ∀ n, ∀ N x0 x1 x2, N < n → I N x0 x1 x2 → kk_it3 F n x0 x1 x2 := by
    intro n
    induction n with
    | zero => intro N _ _ _ h0; exact absurd h0 (Nat.not_lt_zero _)
    | succ n ih => exact fun N x0 x1 x2 h1 h2 => hs (kk_it3 F n) N x0 x1 x2 h2 (fun N' x0' x1' x2' h3 h4 => ih N' x0' x1' x2' (by omega) h4)
  exact ⟨N + 1, key _ N x0 x1 x2 (Nat.lt_succ_self _) h⟩
section
variable {n m : Nat} {a b : Nat → Nat} {σ : kk_St} {c : Nat → Int32} {O : Nat → Nat → Bool} {S : Nat → Bool} {pk : Nat → Int32}
theorem sm_laysParts (M : RM n m a b c σ) (W : Wf n m a b) {Q : kk_St → Prop} (h : ∀ τ t, frF [15] [23] σ τ → t ≤ 9 → τ.1 0 23 = nI t → Q τ) : f_X11_laysParts (mk S m) σ Q := by
  have hm := W.2.2.1
  have hn := W.2.1
  unfold f_X11_laysParts
  rintro _ rfl
  refine lf_3_1 n (by omega) (fun k x τ => frF [15] [23] σ τ ∧ (∃ t, t ≤ k ∧ τ.1 0 23 = nI t) ∧ ∃ T : Nat → Bool, x = mk T 9) (Nat.zero_le _) ⟨frF_f (by simp), ⟨0, Nat.le_refl _, by rw [wr_at, upd_at]; rfl⟩, fun _ => false, (mk_0 9).symm⟩ ?_ ?_
  · rintro rec k _ τ hk ⟨fr, ⟨t, ht, e23⟩, T, rfl⟩ hrec
    have Mk := RM_fr M fr (by simp) (by simp)
    rw [Mk.1]
    refine br_f (nI_ge hk (by omega)) ?_
    refine sp_hasM (by omega) (by omega) ?_
    dsimp only [kk_j2]
    cases z : T k with
    | true => exact br_f (by decide) (hrec _ _ ⟨fr, ⟨t, by omega, e23⟩, T, rfl⟩)
    | false =>
      refine br_t rfl ?_
      rintro _ rfl
      refine kk_lpI2 (fun x y => ∃ U U' : Nat → Bool, x = mk U 9 ∧ y = mk U' 9) (fun x y => 2 * (9 - pop x) + (if y = x then 0 else 1)) ?_ ⟨fun j => decide (j = k), fun _ => false, mk_one (by omega) (by omega), (mk_0 9).symm⟩
      rintro rec13 _ _ ⟨U, U', rfl, rfl⟩ hrec13
      constructor
      · intro _
        rw [e23]
        refine ⟨vp_lt (by omega) (by omega), ?_⟩
        rintro _ rfl
        rintro _ rfl
        rw [mk_or]
        refine hrec _ _ ⟨frF_tr (frF_tr fr (frF_c (by simp) (by decide))) (frF_f (by simp)), ⟨t + 1, by omega, ?_⟩, _, rfl⟩
        rw [wr_at, upd_at, wr_ne _ _ _ (by decide), e23, nI_1]
      · intro ne
        refine lf_2_1 m (by omega) (fun l x => ∃ V : Nat → Bool, x = mk V 9 ∧ ∀ j, U j = true → V j = true) (Nat.zero_le _) ⟨U, rfl, fun _ h => h⟩ ?_ ?_
        · rintro rec18 l _ hl ⟨V, rfl, hV⟩ hrec18
          have hw := W.2.2.2.1 l hl
          rw [Mk.2.1]
          refine br_f (nI_ge hl (by omega)) ?_
          refine sp_hasM hl (by omega) ?_
          dsimp only [kk_j1]
          cases y : S l with
          | false => exact jn_f rfl (hrec18 _ ⟨V, rfl, hV⟩)
          | true =>
            refine jn_t (by decide) ⟨vp_lt (by omega) (by omega), vp_lt (by omega) (by omega), ?_⟩
            rw [rd_nI (q := 1) (by omega), rd_nI (q := 2) (by omega), Mk.2.2.1 l hl, Mk.2.2.2.1 l hl, mk_one (n := 9) (show a l < 9 by omega) (by omega), mk_one (n := 9) (show b l < 9 by omega) (by omega), mk_or]
            rintro _ rfl
            refine ⟨fun _ => hrec18 _ ⟨V, rfl, hV⟩, fun _ => ?_⟩
            rw [mk_or]
            exact hrec18 _ ⟨_, rfl, fun j hj => by rw [hV j hj]; rfl⟩
        · rintro rec18 _ ⟨V, rfl, hV⟩
          rw [Mk.2.1]
          refine br_t (nI_le (Nat.le_refl _) (by omega)) (hrec13 _ _ ⟨V, U, rfl, rfl⟩ ?_)
          rw [if_neg ne, mk_pop (by omega), mk_pop (by omega)]
          have le := fb_ct_le V 9
          have sub := fb_ct_sub (p := U) (q := V) (n := 9) (fun j _ hj => hV j hj)
          by_cases e : mk U 9 = mk V 9
          · rw [if_pos e]; omega
          · rw [if_neg e]
            have : fb_ct U 9 < fb_ct V 9 := by
              rcases fst_ex (fun j => V j && !U j) 9 with ⟨j, j1, j2, _⟩ | j0
              · simp only [Bool.and_eq_true, Bool.not_eq_true'] at j2
                exact ct_strict (x := j) (fun i _ hi => hV i hi) j1 j2.2 j2.1
              · refine absurd (mk_cong (fun j hj => ?_)) e
                have := j0 j hj
                have h2 := hV j
                cases x : U j <;> cases y : V j <;> simp_all
            omega
  · rintro rec _ τ ⟨fr, ⟨t, ht, e23⟩, T, rfl⟩
    have Mk := RM_fr M fr (by simp) (by simp)
    rw [Mk.1]
    exact br_t (nI_le (Nat.le_refl _) (by omega)) (h τ t fr (by omega) e23)
theorem sm_canBeAt (M : RM n m a b c σ) (W : Wf n m a b) (A : AL m O σ) (U : US m a b pk σ) (K : PKc m pk σ) (G : PG m a b O S pk) {p : Nat} (hp : p < 9) {Q : Int32 → Prop} (h1 : Q 1) (h0 : (¬ ∃ f, GO m a b O S pk f) → Q 0) : f_X11_canBeAt (nI p) (mk S m) σ Q := by
  have hm := W.2.2.1
  unfold f_X11_canBeAt
  refine lf_3_2 m (by omega) (fun k x y => x = nI (fb_ct (fun l => (S l && decide (pk l = -1)) && inc a b l p) k) ∧ y = mk (fun q => anyb (fun l => ((S l && decide (pk l = -1)) && inc a b l p) && wy m a b O pk l q) k) 9) (Nat.zero_le _) ⟨rfl, (mk_0 9).symm⟩ ?_ ?_
  · rintro rec k _ _ hk ⟨rfl, rfl⟩ hrec
    rw [M.2.1]
    refine br_f (nI_ge hk (by omega)) ?_
    refine sp_hasM hk (by omega) ?_
    dsimp only [kk_j2]
    have keep : ((S k && decide (pk k = -1)) && inc a b k p) = false → rec (nI (fb_ct (fun l => (S l && decide (pk l = -1)) && inc a b l p) k)) (mk (fun q => anyb (fun l => ((S l && decide (pk l = -1)) && inc a b l p) && wy m a b O pk l q) k) 9) (nI k + 1) := fun z => by
      refine hrec _ _ ⟨by rw [fb_ct_succ, z]; rfl, mk_cong (fun q _ => ?_)⟩
      show _ = (anyb _ k || _)
      dsimp only
      rw [z]; simp
    cases z : S k with
    | false => exact br_t rfl (keep (by rw [z]; rfl))
    | true =>
      refine br_f (by decide) ⟨vp_lt (by omega) (by omega), ?_⟩
      rw [rd_nI (by omega), K k hk]
      by_cases y : pk k = -1
      · refine br_f (by rw [y]; decide) ?_
        refine sm_isAt M W hk (by omega) ?_
        refine bI_nz (fun x => ?_) (fun x => keep (by rw [x, Bool.and_false]))
        refine sm_waysOf M W A U hk ?_
        rw [mk_or]
        have e : ((S k && decide (pk k = -1)) && inc a b k p) = true := by rw [z, decide_eq_true y, x]; rfl
        refine hrec _ _ ⟨by rw [fb_ct_succ, e, nI_1]; rfl, mk_cong (fun q _ => ?_)⟩
        show _ = (anyb _ k || _)
        dsimp only
        rw [e, Bool.true_and]
      · refine br_t ?_ (keep (by rw [decide_eq_false y]; simp))
        rcases G.1 k hk with x | ⟨_, q, hq, x, _⟩
        · exact absurd x y
        · rw [x]; exact nI_le (a := 0) (b := q) (Nat.zero_le _) (by omega)
  · rintro rec _ _ ⟨rfl, rfl⟩
    rw [M.2.1]
    refine br_t (nI_le (Nat.le_refl _) (by omega)) ?_
    refine sp_bitsOfM (by omega) ?_
    dsimp only [kk_j1]
    have l1 := fb_ct_le (fun l => (S l && decide (pk l = -1)) && inc a b l p) m
    have l2 := fb_ct_le (fun q => anyb (fun l => ((S l && decide (pk l = -1)) && inc a b l p) && wy m a b O pk l q) m) 9
    refine ⟨fun z => ⟨Or.inl rfl, h0 (fun ⟨f, hf⟩ => ?_)⟩, fun _ => ⟨Or.inr rfl, h1⟩⟩
    have un : ∀ l, ((S l && decide (pk l = -1)) && inc a b l p) = true → S l = true ∧ pk l = -1 ∧ inc a b l p = true := fun l h => by
      simp only [Bool.and_eq_true, decide_eq_true_eq] at h
      exact ⟨h.1.1, h.1.2, h.2⟩
    have := post_ok (m := m) (a := a) (b := b) (U := fun l => (S l && decide (pk l = -1)) && inc a b l p) (V := fun q => anyb (fun l => ((S l && decide (pk l = -1)) && inc a b l p) && wy m a b O pk l q) m) (f := f) (K := 9) (p := p) (fun l hl u => (wy_of hf hl (un l u).1 (un l u).2.1).1) (fun i j hi hj u v hmt => hf.1.2 i j hi hj (un i u).1 (un j v).1 hmt) (fun l hl u => (un l u).2.2) (fun l hl u => anyb_iff.mpr ⟨l, hl, by rw [u, (wy_of hf hl (un l u).1 (un l u).2.1).2]; rfl⟩)
    exact absurd z (nI_nlt this (by omega))
theorem sm_canBeEnough (M : RM n m a b c σ) (W : Wf n m a b) (A : AL m O σ) (U : US m a b pk σ) (K : PKc m pk σ) (G : PG m a b O S pk) {t : Nat} (ht : t ≤ 9) (e23 : σ.1 0 23 = nI t) {Q : Int32 → Prop} (h1 : Q 1) (h0 : (¬ ∃ f, GO m a b O S pk f) → Q 0) : f_X11_canBeEnough (mk S m) σ Q := by
  have hm := W.2.2.1
  have hn := W.2.1
  unfold f_X11_canBeEnough
  refine lf_1_0 n (by omega) (fun _ => True) (Nat.zero_le _) trivial ?_ ?_
  · rintro rec k hk _ hrec
    rw [M.1]
    refine br_f (nI_ge hk (by omega)) ?_
    exact sm_canBeAt M W A U K G (by omega) (jn_t (by decide) (hrec trivial)) (fun hx => jn_f rfl (h0 hx))
  rintro rec _
  rw [M.1]
  refine br_t (nI_le (Nat.le_refl _) (by omega)) ?_
  refine lf_1_0 t (by omega) (fun _ => True) (Nat.zero_le _) trivial ?_ ?_
  · rintro rec4 i hi _ hrec4
    rw [e23]
    refine br_f (nI_ge hi (by omega)) ?_
    refine lf_4_3 m (by omega) (fun k x y z => x = nI (fb_ct (fun l => (S l && decide (pk l = -1)) && bt (σ.1 15 i) (a l)) k) ∧ y = mk (fun p => anyb (fun l => ((S l && decide (pk l = -1)) && bt (σ.1 15 i) (a l)) && inc a b l p) k) 9 ∧ z = mk (fun q => anyb (fun l => ((S l && decide (pk l = -1)) && bt (σ.1 15 i) (a l)) && O q l) k) 9) (Nat.zero_le _) ⟨rfl, (mk_0 9).symm, (mk_0 9).symm⟩ ?_ ?_
    · rintro rec9 k _ _ _ hk ⟨rfl, rfl, rfl⟩ hrec9
      have hw := W.2.2.2.1 k hk
      rw [M.2.1]
      refine br_f (nI_ge hk (by omega)) ?_
      refine sp_hasM hk (by omega) ?_
      dsimp only [kk_j3]
      have keep : ((S k && decide (pk k = -1)) && bt (σ.1 15 i) (a k)) = false → rec9 (nI (fb_ct (fun l => (S l && decide (pk l = -1)) && bt (σ.1 15 i) (a l)) k)) (mk (fun p => anyb (fun l => ((S l && decide (pk l = -1)) && bt (σ.1 15 i) (a l)) && inc a b l p) k) 9) (mk (fun q => anyb (fun l => ((S l && decide (pk l = -1)) && bt (σ.1 15 i) (a l)) && O q l) k) 9) (nI k + 1) := fun z => by
        refine hrec9 _ _ _ ⟨by rw [fb_ct_succ, z]; rfl, mk_cong (fun q _ => ?_), mk_cong (fun q _ => ?_)⟩
        · show _ = (anyb _ k || _)
          dsimp only
          rw [z]; simp
        · show _ = (anyb _ k || _)
          dsimp only
          rw [z]; simp
      cases z : S k with
      | false => exact br_t rfl (keep (by rw [z]; rfl))
      | true =>
        refine br_f (by decide) ⟨vp_lt (by omega) (by omega), ?_⟩
        rw [rd_nI (q := 11) (by omega), K k hk]
        by_cases y : pk k = -1
        · refine br_f (by rw [y]; decide) ⟨vp_lt (by omega) (by omega), vp_lt (by omega) (by omega), ?_⟩
          rw [rd_nI (q := 1) (by omega), rd_nI (q := 2) (by omega), rd_nI (q := 10) (by omega), rd_nI (q := 15) (by omega), M.2.2.1 k hk, M.2.2.2.1 k hk, A k hk]
          refine sp_has (by omega) ?_
          cases x : bt (σ.1 15 i) (a k) with
          | false => exact jn_f rfl (keep (by rw [x, Bool.and_false]))
          | true =>
            have e : ((S k && decide (pk k = -1)) && bt (σ.1 15 i) (a k)) = true := by rw [z, decide_eq_true y, x]; rfl
            refine jn_t (by decide) ⟨vp_lt (by omega) (by omega), vp_lt (by omega) (by omega), ?_⟩
            rw [mk_one (n := 9) (show a k < 9 by omega) (by omega), mk_one (n := 9) (show b k < 9 by omega) (by omega), mk_or, mk_or, mk_or]
            rintro _ rfl
            refine ⟨vp_lt (by omega) (by omega), ?_⟩
            rintro _ rfl
            refine hrec9 _ _ _ ⟨by rw [fb_ct_succ, e, nI_1]; rfl, mk_cong (fun p _ => ?_), mk_cong (fun q _ => ?_)⟩
            · show _ = (anyb _ k || _)
              dsimp only
              rw [e, Bool.true_and]
              congr 1
              unfold inc
              simp only [eq_comm]
            · show _ = (anyb _ k || _)
              dsimp only
              rw [e, Bool.true_and]
        · refine br_t ?_ (keep (by rw [decide_eq_false y]; simp))
          rcases G.1 k hk with x | ⟨_, q, hq, x, _⟩
          · exact absurd x y
          · rw [x]; exact nI_le (a := 0) (b := q) (Nat.zero_le _) (by omega)
    · rintro rec9 _ _ _ ⟨rfl, rfl, rfl⟩
      rw [M.2.1]
      refine br_t (nI_le (Nat.le_refl _) (by omega)) ?_
      refine lf_2_1 9 (by omega) (fun q x => x = nI (sumN (fun q => fb_ct (fun p => anyb (fun l => ((S l && decide (pk l = -1)) && bt (σ.1 15 i) (a l)) && inc a b l p) m && (anyb (fun l => ((S l && decide (pk l = -1)) && bt (σ.1 15 i) (a l)) && O q l) m && !usd m a b pk p (nI q))) n / 2) q)) (Nat.zero_le _) rfl ?_ ?_
      · rintro rec12 q _ hq rfl hrec12
        refine br_f (nI_ge (a := q) (b := 9) hq (by omega)) ?_
        refine lf_2_1 n (by omega) (fun p x => x = nI (fb_ct (fun p => anyb (fun l => ((S l && decide (pk l = -1)) && bt (σ.1 15 i) (a l)) && inc a b l p) m && (anyb (fun l => ((S l && decide (pk l = -1)) && bt (σ.1 15 i) (a l)) && O q l) m && !usd m a b pk p (nI q))) p)) (Nat.zero_le _) rfl ?_ ?_
        · rintro rec16 p _ hp rfl hrec16
          refine br_f (nI_ge hp (by omega)) ?_
          refine sp_hasM (by omega) (by omega) ?_
          dsimp only [kk_j1]
          cases z : anyb (fun l => ((S l && decide (pk l = -1)) && bt (σ.1 15 i) (a l)) && inc a b l p) m with
          | false => exact br_t rfl (hrec16 _ (by rw [fb_ct_succ, z]; rfl))
          | true =>
            refine br_f (by decide) ⟨vp_lt (by omega) (by omega), ?_⟩
            rw [rd_nI (by omega), U p (by omega), mk_andn]
            refine sp_hasM (by omega) (by omega) ?_
            cases y : (anyb (fun l => ((S l && decide (pk l = -1)) && bt (σ.1 15 i) (a l)) && O q l) m && !usd m a b pk p (nI q)) with
            | false => exact br_t rfl (hrec16 _ (by rw [fb_ct_succ, y, Bool.and_false]; rfl))
            | true => exact br_f (by decide) (hrec16 _ (by rw [fb_ct_succ, z, y, nI_1]; rfl))
        · rintro rec16 _ rfl
          refine br_t (nI_le (Nat.le_refl _) (by omega)) ?_
          rintro _ rfl
          have l1 := fb_ct_le (fun p => anyb (fun l => ((S l && decide (pk l = -1)) && bt (σ.1 15 i) (a l)) && inc a b l p) m && (anyb (fun l => ((S l && decide (pk l = -1)) && bt (σ.1 15 i) (a l)) && O q l) m && !usd m a b pk p (nI q))) n
          rw [half9 (by omega), nI_add]
          exact hrec12 _ rfl
      · rintro rec12 _ rfl
        refine br_t (nI_le (a := 9) (b := 9) (Nat.le_refl _) (by omega)) ?_
        have l1 := fb_ct_le (fun l => (S l && decide (pk l = -1)) && bt (σ.1 15 i) (a l)) m
        have l2 := sumN_le (f := fun q => fb_ct (fun p => anyb (fun l => ((S l && decide (pk l = -1)) && bt (σ.1 15 i) (a l)) && inc a b l p) m && (anyb (fun l => ((S l && decide (pk l = -1)) && bt (σ.1 15 i) (a l)) && O q l) m && !usd m a b pk p (nI q))) n / 2) (x := n / 2) (fun q => by
          have := fb_ct_le (fun p => anyb (fun l => ((S l && decide (pk l = -1)) && bt (σ.1 15 i) (a l)) && inc a b l p) m && (anyb (fun l => ((S l && decide (pk l = -1)) && bt (σ.1 15 i) (a l)) && O q l) m && !usd m a b pk p (nI q))) n
          omega) 9
        refine ⟨fun _ => hrec4 trivial, fun z => h0 (fun ⟨f, hf⟩ => z (nI_le ?_ (by omega)))⟩
        have un : ∀ l, ((S l && decide (pk l = -1)) && bt (σ.1 15 i) (a l)) = true → S l = true ∧ pk l = -1 := fun l h => by
          simp only [Bool.and_eq_true, decide_eq_true_eq] at h
          exact h.1
        refine room_ok W (U := fun l => (S l && decide (pk l = -1)) && bt (σ.1 15 i) (a l)) (f := f) (K := 9) (fun l hl u => (wy_of hf hl (un l u).1 (un l u).2).1) (fun i j hi hj u v hmt => hf.1.2 i j hi hj (un i u).1 (un j v).1 hmt) (T := fun q p => anyb (fun l => ((S l && decide (pk l = -1)) && bt (σ.1 15 i) (a l)) && inc a b l p) m && (anyb (fun l => ((S l && decide (pk l = -1)) && bt (σ.1 15 i) (a l)) && O q l) m && !usd m a b pk p (nI q))) (fun l hl u => ?_)
        obtain ⟨w1, w2, w3⟩ := wy_iff.mp (wy_of hf hl (un l u).1 (un l u).2).2
        have o1 : anyb (fun l' => ((S l' && decide (pk l' = -1)) && bt (σ.1 15 i) (a l')) && O (f l) l') m = true := anyb_iff.mpr ⟨l, hl, by rw [u, w1]; rfl⟩
        have o2 : ∀ p, inc a b l p = true → anyb (fun l' => ((S l' && decide (pk l' = -1)) && bt (σ.1 15 i) (a l')) && inc a b l' p) m = true := fun p hp => anyb_iff.mpr ⟨l, hl, by rw [u, hp]; rfl⟩
        rw [o1, o2 _ (inc_iff.mpr (Or.inl rfl)), o2 _ (inc_iff.mpr (Or.inr rfl)), w2, w3]
        exact ⟨rfl, rfl⟩
  · rintro rec4 _
    rw [e23]
    exact br_t (nI_le (Nat.le_refl _) (by omega)) h1
theorem sm_triesOf (M : RM n m a b c σ) (W : Wf n m a b) (A : AL m O σ) (U : US m a b pk σ) (G : PG m a b O S pk) (ha : σ.1 0 17 = 0 ∨ (σ.1 0 17 = 1 ∧ ∀ l l' q, l < m → l' < m → O q l = O q l')) {l : Nat} (hl : l < m) (hs : S l = true) (hp : pk l = -1) {Q : Int32 → Prop} (h : ∀ R : Nat → Bool, (∀ q, q < 9 → R q = true → wy m a b O pk l q = true) → ((∃ f, GO m a b O S pk f) → ∃ f, GO m a b O S pk f ∧ R (f l) = true) → Q (mk R 9)) : f_X11_triesOf (nI l) σ Q := by
  have hm := W.2.2.1
  have hn := W.2.1
  have hw := W.2.2.2.1 l hl
  unfold f_X11_triesOf
  refine sm_waysOf M W A U hl ?_
  rcases ha with ha | ⟨ha, al⟩
  · refine jn_f ha (h _ (fun _ _ h => h) (fun ⟨f, hf⟩ => ⟨f, hf, (wy_of hf hl hs hp).2⟩))
  · refine jn_t (by rw [ha]; decide) ?_
    refine lf_2_1 n (by omega) (fun k x => x = mk (fun q => anyb (fun p => usd m a b pk p (nI q)) k) 9) (Nat.zero_le _) (mk_0 9).symm ?_ ?_
    · rintro rec k _ hk rfl hrec
      rw [M.1]
      refine br_f (nI_ge hk (by omega)) ⟨vp_lt (by omega) (by omega), ?_⟩
      rintro _ rfl
      rw [rd_nI (by omega), U k (by omega), mk_or]
      exact hrec _ rfl
    · rintro rec _ rfl
      rw [M.1]
      refine br_t (nI_le (Nat.le_refl _) (by omega)) ?_
      rintro _ rfl
      rw [mk_andn, mk_and, (mk_low _).1, mk_or]
      refine h _ (fun q _ hq => ?_) (fun ⟨f, hf⟩ => ?_)
      · rcases Bool.or_eq_true _ _ ▸ hq with z | z
        · exact (Bool.and_eq_true _ _ ▸ z).1
        · have z := (Bool.and_eq_true _ _ ▸ z).1
          exact (Bool.and_eq_true _ _ ▸ z).1
      · obtain ⟨f9, fw⟩ := wy_of hf hl hs hp
        by_cases hd : anyb (fun p => usd m a b pk p (nI (f l))) n = true
        · exact ⟨f, hf, by rw [fw, hd]; rfl⟩
        · have hd : anyb (fun p => usd m a b pk p (nI (f l))) n = false := by simpa using hd
          obtain ⟨q0, q1, q2, q3⟩ : ∃ q0, q0 ≤ f l ∧ (wy m a b O pk l q0 && !anyb (fun p => usd m a b pk p (nI q0)) n) = true ∧ ∀ j, j < q0 → (wy m a b O pk l j && !anyb (fun p => usd m a b pk p (nI j)) n) = false := by
            rcases fst_ex (fun q => wy m a b O pk l q && !anyb (fun p => usd m a b pk p (nI q)) n) (f l + 1) with ⟨t, t1, t2, t3⟩ | t
            · exact ⟨t, by omega, t2, t3⟩
            · have := t (f l) (by omega)
              rw [fw, hd] at this
              cases this
          have q2' : wy m a b O pk l q0 = true ∧ anyb (fun p => usd m a b pk p (nI q0)) n = false := by simpa using q2
          have fresh : ∀ q, anyb (fun p => usd m a b pk p (nI q)) n = false → ∀ j, j < m → pk j ≠ nI q := fun q hq j hj => by
            have hwj := W.2.2.2.1 j hj
            exact usd_no (anyb_no.mp hq (a j) (by omega)) hj (inc_iff.mpr (Or.inl rfl))
          refine ⟨swc f (f l) q0, ⟨okc_swc hf.1 (fun j hj hsj => ?_), fun j hj hne => ?_⟩, ?_⟩
          · have w1 := (wy_iff.mp fw).1
            have w2 := (wy_iff.mp q2'.1).1
            unfold LO
            rw [al j l (f l) hj hl, al j l q0 hj hl, w1, w2, decide_eq_true f9, decide_eq_true (show q0 < 9 by omega)]
          · obtain ⟨s1, s2⟩ := hf.2 j hj hne
            refine ⟨s1, ?_⟩
            have n1 : f j ≠ f l := fun z => fresh _ hd j hj (by rw [← z]; exact s2)
            have n2 : f j ≠ q0 := fun z => fresh _ q2'.2 j hj (by rw [← z]; exact s2)
            unfold swc
            rw [if_neg n1, if_neg n2]; exact s2
          · have e : swc f (f l) q0 l = q0 := by unfold swc; rw [if_pos rfl]
            rw [e, q2, anyb_no.mpr q3]
            simp
end
