/-! how few, the first, the dear: the first side, with what it keeps -/
section
variable {n m : Nat} {a b : Nat → Nat} {σ : kk_St}
theorem LO_Lk {k : Nat} (hk : k ≤ 9) : LO (fun q _ => decide (q < k)) = Lk k := by
  funext l q
  show (decide (q < 9) && decide (q < k)) = decide (q < k)
  by_cases h : q < k
  · rw [decide_eq_true h, decide_eq_true (show q < 9 by omega)]; rfl
  · rw [decide_eq_false h, Bool.and_false]
theorem sc_openBelow (N : RN n m a b σ) (W : Wf n m a b) {k : Nat} (hk : k ≤ 9) {Q : kk_St → Prop} (h : ∀ τ, frL [20] σ τ → OP m (fun q _ => decide (q < k)) τ → Q τ) : f_X7_openBelow (nI k) σ Q := by
  have hm := W.2.2.1
  unfold f_X7_openBelow
  refine lf_2_0 9 (by omega) (fun q τ => frL [20] σ τ ∧ ∀ i, i < q → τ.1 20 i = mk (fun _ => decide (i < k)) m) (Nat.zero_le _) ⟨frL_rf, fun _ h => absurd h (Nat.not_lt_zero _)⟩ ?_ ?_
  · rintro rec q τ hq ⟨fr, i1⟩ hrec
    have Nk := RN_fr N fr (by simp)
    refine br_f (nI_ge (a := q) (b := 9) hq (by omega)) ?_
    dsimp only [kk_j1]
    have go : ∀ v, v = mk (fun _ => decide (q < k)) m → (vp_in (nI q) 9 ∧ ∀ σ_6 : kk_St, σ_6 = kk_wr τ 20 (Int32.toNatClampNeg (nI q)) v → rec (nI q + 1) σ_6) := by
      rintro _ rfl
      refine ⟨vp_lt (by omega) (by omega), ?_⟩
      rintro _ rfl
      refine hrec _ ⟨frL_tr fr (frL_wr (by simp)), fun i hi => ?_⟩
      rw [nI_clamp (by omega), wr_at, upd_if]
      by_cases e : i = q
      · rw [if_pos e, e]
      · rw [if_neg e]; exact i1 i (by omega)
    rcases Nat.lt_or_ge q k with g | g
    · refine br_f (nI_ge g (by omega)) (sc_allLines Nk hm (go _ ?_))
      rw [decide_eq_true g]
    · refine br_t (nI_le g (by omega)) (go _ ?_)
      rw [decide_eq_false (by omega)]; exact (mk_0 m).symm
  · rintro rec τ ⟨fr, i1⟩
    exact br_t (nI_le (a := 9) (b := 9) (Nat.le_refl _) (by omega)) (h τ fr i1)
theorem sc_canDo (N : RN n m a b σ) (W : Wf n m a b) {S : Nat → Bool} {k : Nat} (hk : k ≤ 9) {Q : Int32 → kk_St → Prop} (h1 : (DgS n m a b S < k ∨ (DgS n m a b S = k ∧ exc m a b (Lk k) S)) → ∀ τ, frL [20, 21] σ τ → Q 1 τ) (h0 : (k < DgS n m a b S ∨ (DgS n m a b S = k ∧ ¬ exc m a b (Lk k) S)) → ∀ τ, frL [20, 21] σ τ → Q 0 τ) : f_X7_canDo (mk S m) (nI k) σ Q := by
  have hm := W.2.2.1
  have hn := W.2.1
  have d20 : DgS n m a b S ≤ m := mx_le (fun p _ => fb_ct_le _ _)
  unfold f_X7_canDo
  refine sc_mostAtOnePost N hn hm ?_
  constructor
  · intro e
    have e := (nI_ne (by omega) (by omega)).mp e
    refine sc_crowdedSet N W hk ?_
    have lt := crS_lt (n := n) (m := m) (a := a) (b := b) (S := S) (d := k)
    have p2 := p2_le hn
    constructor
    · intro _
      refine sc_openBelow N W hk (fun τ fr H => ?_)
      have Nk := RN_fr N fr (by simp)
      have le := fb_ct_le S m
      refine sc_complete W 30 0 _ S τ _ Nk H (by omega) (by omega) (fun f τ' hc => ⟨Or.inr rfl, h1 (Or.inr ⟨e, f, ?_⟩) τ' (frL_tr (frL_mono fr (by simp)) (frL_mono hc.2.1 (by simp)))⟩) (fun hx τ' fr' => ⟨Or.inl rfl, h0 (Or.inr ⟨e, ?_⟩) τ' (frL_tr (frL_mono fr (by simp)) (frL_mono fr' (by simp)))⟩)
      · have := hc.1
        rw [LO_Lk hk] at this
        exact this
      · rw [LO_Lk hk] at hx
        exact hx
    · intro z
      exact h0 (Or.inr ⟨e, no_crowd W (fun y => z (by rw [y]; rfl))⟩) σ frL_rf
  · intro e
    have e : DgS n m a b S ≠ k := fun z => e (by rw [z])
    dsimp only [kk_j1]
    rcases Nat.lt_or_ge (DgS n m a b S) k with g | g
    · exact br_f (nI_ge g (by omega)) ⟨Or.inr rfl, h1 (Or.inl g) σ frL_rf⟩
    · exact br_t (nI_le g (by omega)) ⟨Or.inl rfl, h0 (Or.inl (by omega)) σ frL_rf⟩
theorem DgS_allS : DgS n m a b allS = Dg n m a b := rfl
theorem ixS_t {S : Nat → Bool} (h : exc m a b (Lk (DgS n m a b S)) S) : ixS n m a b S = DgS n m a b S := if_pos h
theorem ixS_f {S : Nat → Bool} (h : ¬ exc m a b (Lk (DgS n m a b S)) S) : ixS n m a b S = DgS n m a b S + 1 := if_neg h
theorem ixS_01 (S : Nat → Bool) : DgS n m a b S ≤ ixS n m a b S ∧ ixS n m a b S ≤ DgS n m a b S + 1 := by
  by_cases h : exc m a b (Lk (DgS n m a b S)) S
  · rw [ixS_t h]; omega
  · rw [ixS_f h]; omega
theorem ix_no {S : Nat → Bool} {k : Nat} (h : k < ixS n m a b S) : ¬ exc m a b (Lk k) S := by
  by_cases g : k < DgS n m a b S
  · exact no_deg g
  · have := (ixS_01 (n := n) (m := m) (a := a) (b := b) S).2
    have e : k = DgS n m a b S := by omega
    intro z
    rw [e] at z h
    rw [ixS_t z] at h
    omega
theorem sc_fewest (N : RN n m a b σ) (W : Wf n m a b) (hc : σ.1 7 6 = -1 ∨ σ.1 7 6 = nI (ixS n m a b allS)) {Q : Int32 → kk_St → Prop} (h : ∀ τ, frL [7, 20, 21] σ τ → (∀ i, i ≠ 6 → τ.1 7 i = σ.1 7 i) → τ.1 7 6 = nI (ixS n m a b allS) → Q (nI (ixS n m a b allS)) τ) : f_X7_fewest σ Q := by
  have hm := W.2.2.1
  have hD := Dg_le8 W
  unfold f_X7_fewest
  dsimp only [kk_j1]
  rcases hc with hc | hc
  · refine jn_f hc (sc_allLines N hm ?_)
    rw [N.2.2.1]
    have go : ∀ τ, frL [20, 21] σ τ → ∀ v, v = nI (ixS n m a b allS) → ∀ σ_8 : kk_St, σ_8 = kk_wr τ 7 6 v → Q (σ_8.1 7 6) σ_8 := by
      rintro τ fr _ rfl _ rfl
      rw [wr_at, upd_at]
      refine h _ (frL_tr (frL_mono fr (by simp)) (frL_wr (by simp))) (fun i hi => ?_) (by rw [wr_at, upd_at])
      rw [wr_at, upd_ne _ _ hi, fr.1 7 (by simp)]
    refine sc_canDo N W (S := fun _ => true) (by omega) (fun e τ fr => ?_) (fun e τ fr => ?_)
    · have Nk := RN_fr N fr (by simp)
      refine br_f (by decide) (go τ fr _ ?_)
      rw [Nk.2.2.1]
      rcases e with e | ⟨_, e⟩
      · have : DgS n m a b (fun _ => true) = Dg n m a b := rfl
        omega
      · rw [ixS_t (S := allS) e]; rfl
    · have Nk := RN_fr N fr (by simp)
      refine br_t rfl (go τ fr _ ?_)
      rw [Nk.2.2.1, nI_1]
      rcases e with e | ⟨_, e⟩
      · have : DgS n m a b (fun _ => true) = Dg n m a b := rfl
        omega
      · rw [ixS_f (S := allS) e]; rfl
  · refine jn_t (by rw [hc]; exact nI_ne_m1 (by have := (ixS_01 (n := n) (m := m) (a := a) (b := b) allS).2; have : DgS n m a b allS = Dg n m a b := rfl; omega)) ?_
    rw [hc]
    exact h σ frL_rf (fun _ _ => rfl) hc
/-- the kept answers after a change of the rest -/
theorem Ans_fr {L : Nat → Nat → Bool} {σ τ : kk_St} (h : Ans m a b L σ) (h5 : τ.1 7 5 = σ.1 7 5) (h22 : τ.1 22 = σ.1 22) : Ans m a b L τ := by
  unfold Ans
  rw [h5, h22]; exact h
theorem CI_new {ls : Nat → Int32} {σ τ : kk_St} (h : CI n m a b ls σ) (h4 : τ.1 7 4 = σ.1 7 4) (h5 : τ.1 7 5 = σ.1 7 5) (h22 : τ.1 22 = σ.1 22) (h6 : τ.1 7 6 = -1 ∨ τ.1 7 6 = nI (ixS n m a b allS)) (h7 : τ.1 7 7 = -1 ∨ τ.1 7 7 = mk (crit n m a b) m) : CI n m a b ls τ := by
  refine ⟨h6, h7, ?_⟩
  rw [h4]
  rcases h.2.2 with z | ⟨k, hk, z1, z2⟩ | ⟨z1, z2⟩
  · exact Or.inl z
  · exact Or.inr (Or.inl ⟨k, hk, z1, Ans_fr z2 h5 h22⟩)
  · exact Or.inr (Or.inr ⟨z1, Ans_fr z2 h5 h22⟩)
/-- what is found, told by what is kept -/
theorem ans_end {L : Nat → Nat → Bool} {σ : kk_St} (A : Ans m a b L σ) {Q : Int32 → kk_St → Prop} (h1 : ∀ f, fstc m a b L allS f → (∀ l, l < m → σ.1 22 l = nI (f l)) → Q 1 σ) (h0 : ¬ exc m a b L allS → Q 0 σ) : (σ.1 7 5 = 0 ∨ σ.1 7 5 = 1) ∧ Q (σ.1 7 5) σ := by
  rcases A with ⟨z1, z2⟩ | ⟨z1, f, z2, z3⟩
  · rw [z1]; exact ⟨Or.inl rfl, h0 z2⟩
  · rw [z1]; exact ⟨Or.inr rfl, h1 f z2 z3⟩
theorem sc_findFirst {ls : Nat → Int32} (N : RN n m a b σ) (W : Wf n m a b) (C : CI n m a b ls σ) {k : Nat} (hk : k ≤ 9) {Q : Int32 → kk_St → Prop} (h1 : ∀ f τ, frL [7, 20, 21, 22] σ τ → CI n m a b ls τ → fstc m a b (Lk k) allS f → (∀ l, l < m → τ.1 22 l = nI (f l)) → Q 1 τ) (h0 : ∀ τ, frL [7, 20, 21, 22] σ τ → CI n m a b ls τ → ¬ exc m a b (Lk k) allS → Q 0 τ) : f_X7_findFirst (nI k) σ Q := by
  have hm := W.2.2.1
  unfold f_X7_findFirst
  dsimp only [kk_j1]
  have fin : ∀ τ, frL [7, 20, 21, 22] σ τ → CI n m a b ls τ → Ans m a b (Lk k) τ → (τ.1 7 5 = 0 ∨ τ.1 7 5 = 1) ∧ Q (τ.1 7 5) τ := fun τ fr c A => ans_end A (fun f hf hl => h1 f τ fr c hf hl) (fun hx => h0 τ fr c hx)
  constructor
  · intro e
    refine fin σ frL_rf C ?_
    rcases C.2.2 with z | ⟨k', hk', z1, z2⟩ | ⟨z1, z2⟩
    · rw [z] at e; exact absurd e.symm (nI_ne_m1 (by omega))
    · rw [z1] at e
      have := (nI_ne (by omega) (by omega)).mp e
      rw [← this]; exact z2
    · rw [z1] at e
      have := (nI_ne (i := 10) (j := k) (by omega) (by omega)).mp e
      omega
  · rintro _ _ rfl
    have N1 : RN n m a b (kk_wr σ 7 4 (nI k)) := RN_fr N (frL_wr (L := [7]) (by simp)) (by simp)
    have w : ∀ i, i ≠ 4 → (kk_wr σ 7 4 (nI k)).1 7 i = σ.1 7 i := fun i hi => by rw [wr_at, upd_ne _ _ hi]
    refine sc_fewest N1 W (by rw [w 6 (by decide)]; exact C.1) (fun τ fr hi h6 => ?_)
    have fr0 : frL [7, 20, 21, 22] σ τ := frL_tr (frL_wr (by simp)) (frL_mono fr (by simp))
    have e4 : τ.1 7 4 = nI k := by rw [hi 4 (by decide), wr_at, upd_at]
    have e7 : τ.1 7 7 = -1 ∨ τ.1 7 7 = mk (crit n m a b) m := by rw [hi 7 (by decide), w 7 (by decide)]; exact C.2.1
    have x8 := (ixS_01 (n := n) (m := m) (a := a) (b := b) allS).2
    have d8 := Dg_le8 W
    have da : DgS n m a b allS = Dg n m a b := rfl
    rcases Nat.lt_or_ge k (ixS n m a b allS) with g | g
    · refine br_t (nI_lt g (by omega)) ⟨Or.inl rfl, ?_⟩
      rintro _ rfl
      refine br_t (by rw [wr_at, upd_at]) ?_
      have A : Ans m a b (Lk k) (kk_wr τ 7 5 0) := Or.inl ⟨by rw [wr_at, upd_at], ix_no g⟩
      refine fin _ (frL_tr fr0 (frL_wr (by simp))) ⟨?_, ?_, Or.inr (Or.inl ⟨k, hk, ?_, A⟩)⟩ A
      · rw [wr_at, upd_ne _ _ (by decide)]; exact Or.inr h6
      · rw [wr_at, upd_ne _ _ (by decide)]; exact e7
      · rw [wr_at, upd_ne _ _ (by decide)]; exact e4
    · refine br_f (nI_nlt g (by omega)) ⟨Or.inr rfl, ?_⟩
      rintro _ rfl
      refine br_f (by rw [wr_at, upd_at]; decide) ?_
      have fr1 : frL [7, 20, 21, 22] σ (kk_wr τ 7 5 1) := frL_tr fr0 (frL_wr (by simp))
      have N2 : RN n m a b (kk_wr τ 7 5 1) := RN_fr N fr1 (by simp)
      refine sc_openBelow N2 W hk (fun τ2 fr2 H2 => ?_)
      have N3 := RN_fr N2 fr2 (by simp)
      have all : ∀ τ3 r, frL [20, 21, 22] τ2 τ3 → Ans m a b (Lk k) (kk_wr τ3 7 5 r) → ((kk_wr τ3 7 5 r).1 7 5 = 0 ∨ (kk_wr τ3 7 5 r).1 7 5 = 1) ∧ Q ((kk_wr τ3 7 5 r).1 7 5) (kk_wr τ3 7 5 r) := by
        intro τ3 r fr3 A
        have c7 : τ3.1 7 = (kk_wr τ 7 5 1).1 7 := by rw [fr3.1 7 (by simp), fr2.1 7 (by simp)]
        refine fin _ (frL_tr (frL_tr (frL_tr fr1 (frL_mono fr2 (by simp))) (frL_mono fr3 (by simp))) (frL_wr (by simp))) ⟨?_, ?_, Or.inr (Or.inl ⟨k, hk, ?_, A⟩)⟩ A
        · rw [wr_at, upd_ne _ _ (by decide), c7, wr_at, upd_ne _ _ (by decide)]; exact Or.inr h6
        · rw [wr_at, upd_ne _ _ (by decide), c7, wr_at, upd_ne _ _ (by decide)]; exact e7
        · rw [wr_at, upd_ne _ _ (by decide), c7, wr_at, upd_ne _ _ (by decide)]; exact e4
      refine sc_findLeast W N3 H2 (fun f τ3 hf fr3 ha => ⟨Or.inr rfl, ?_⟩) (fun hx τ3 fr3 => ⟨Or.inl rfl, ?_⟩)
      · rintro _ rfl
        rw [LO_Lk hk] at hf
        exact all τ3 1 fr3 (Or.inr ⟨by rw [wr_at, upd_at], f, hf, fun l hl => by rw [wr_ne _ _ _ (by decide)]; exact (ha l hl).2⟩)
      · rintro _ rfl
        rw [LO_Lk hk] at hx
        exact all τ3 0 fr3 (Or.inl ⟨by rw [wr_at, upd_at], hx⟩)
theorem sc_openListed {ls : Nat → Int32} (N : RN n m a b σ) (W : Wf n m a b) (hl : ∀ k, k < m → σ.1 32 k = ls k) {Q : kk_St → Prop} (h : ∀ τ, frL [20] σ τ → OP m (fun q l => bt (ls l) q) τ → Q τ) : f_X7_openListed 32 20 σ Q := by
  have hm := W.2.2.1
  unfold f_X7_openListed
  refine lf_2_0 9 (by omega) (fun q τ => frL [20] σ τ ∧ ∀ i, i < q → τ.1 20 i = mk (fun l => bt (ls l) i) m) (Nat.zero_le _) ⟨frL_rf, fun _ h => absurd h (Nat.not_lt_zero _)⟩ ?_ ?_
  · rintro rec q τ hq ⟨fr, i1⟩ hrec
    refine br_f (nI_ge (a := q) (b := 9) hq (by omega)) ⟨vp_lt (by omega) (by omega), ?_⟩
    rintro _ rfl
    have cq : Int32.toNatClampNeg (nI q) = q := nI_clamp (by omega)
    refine lf_2_0 m (by omega) (fun k τ' => frL [20] σ τ' ∧ (∀ i, i < q → τ'.1 20 i = mk (fun l => bt (ls l) i) m) ∧ τ'.1 20 q = mk (fun l => bt (ls l) q) k) (Nat.zero_le _) ⟨frL_tr fr (frL_wr (by simp)), fun i hi => by rw [cq, wr_at, upd_ne _ _ (by omega)]; exact i1 i hi, by rw [cq, wr_at, upd_at]; rfl⟩ ?_ ?_
    · rintro rec7 k τ' hk ⟨fr', j1, j2⟩ hrec7
      have Nk := RN_fr N fr' (by simp)
      rw [Nk.2.1]
      refine br_f (nI_ge hk (by omega)) ⟨vp_lt (by omega) (by omega), vp_lt (by omega) (by omega), vp_lt (by omega) (by omega), ?_⟩
      rintro _ rfl
      rw [cq, rd_nI (by omega), rd_nI (by omega), j2, fr'.1 32 (by simp), hl k hk, z_bit _ (by omega)]
      refine hrec7 _ ⟨frL_tr fr' (frL_wr (by simp)), fun i hi => by rw [wr_at, upd_ne _ _ (by omega)]; exact j1 i hi, ?_⟩
      rw [wr_at, upd_at]
      have pu := mk_push (fun l => bt (ls l) q) (n := k) (by omega)
      cases z : bt (ls k) q with
      | true => rw [z, if_pos rfl] at pu; rw [if_pos rfl]; exact pu
      | false =>
        rw [z] at pu
        refine Eq.trans ?_ pu
        show _ ||| ((0 : Int32) <<< (nI k &&& 31)) = _
        have : (0 : Int32) <<< (nI k &&& 31) = nI 0 := by
          have := z_shl (N := 0) (k := k) (by omega)
          rw [Nat.zero_mul] at this
          exact this
        rw [this]
        exact Int32.or_zero
    · rintro rec7 τ' ⟨fr', j1, j2⟩
      have Nk := RN_fr N fr' (by simp)
      rw [Nk.2.1]
      refine br_t (nI_le (Nat.le_refl _) (by omega)) (hrec _ ⟨fr', fun i hi => ?_⟩)
      by_cases e : i = q
      · rw [e]; exact j2
      · exact j1 i (by omega)
  · rintro rec τ ⟨fr, i1⟩
    exact br_t (nI_le (a := 9) (b := 9) (Nat.le_refl _) (by omega)) (h τ fr i1)
theorem sc_findListed {ls : Nat → Int32} (N : RN n m a b σ) (W : Wf n m a b) (C : CI n m a b ls σ) (hls : ∀ k, k < m → σ.1 32 k = ls k) {Q : Int32 → kk_St → Prop} (h1 : ∀ f τ, frL [7, 20, 21, 22] σ τ → CI n m a b ls τ → fstc m a b (Ll ls) allS f → (∀ l, l < m → τ.1 22 l = nI (f l)) → Q 1 τ) (h0 : ∀ τ, frL [7, 20, 21, 22] σ τ → CI n m a b ls τ → ¬ exc m a b (Ll ls) allS → Q 0 τ) : f_X7_findListed 32 20 σ Q := by
  have hm := W.2.2.1
  unfold f_X7_findListed
  dsimp only [kk_j1]
  have fin : ∀ τ, frL [7, 20, 21, 22] σ τ → CI n m a b ls τ → Ans m a b (Ll ls) τ → (τ.1 7 5 = 0 ∨ τ.1 7 5 = 1) ∧ Q (τ.1 7 5) τ := fun τ fr c A => ans_end A (fun f hf hl => h1 f τ fr c hf hl) (fun hx => h0 τ fr c hx)
  constructor
  · intro e
    refine fin σ frL_rf C ?_
    rcases C.2.2 with z | ⟨k', hk', z1, z2⟩ | ⟨z1, z2⟩
    · rw [z] at e; exact absurd e (by decide)
    · rw [z1] at e
      have := (nI_ne (i := k') (j := 10) (by omega) (by omega)).mp e
      omega
    · exact z2
  · rintro _ _ rfl
    have fr0 : frL [7, 20, 21, 22] σ (kk_wr σ 7 4 10) := frL_wr (by simp)
    have N1 : RN n m a b (kk_wr σ 7 4 10) := RN_fr N fr0 (by simp)
    refine sc_openListed N1 W (ls := ls) (fun k hk => by rw [wr_ne _ _ _ (by decide)]; exact hls k hk) (fun τ2 fr2 H2 => ?_)
    have N3 := RN_fr N1 fr2 (by simp)
    have all : ∀ τ3 r, frL [20, 21, 22] τ2 τ3 → Ans m a b (Ll ls) (kk_wr τ3 7 5 r) → ((kk_wr τ3 7 5 r).1 7 5 = 0 ∨ (kk_wr τ3 7 5 r).1 7 5 = 1) ∧ Q ((kk_wr τ3 7 5 r).1 7 5) (kk_wr τ3 7 5 r) := by
      intro τ3 r fr3 A
      have c7 : τ3.1 7 = (kk_wr σ 7 4 10).1 7 := by rw [fr3.1 7 (by simp), fr2.1 7 (by simp)]
      refine fin _ (frL_tr (frL_tr (frL_tr fr0 (frL_mono fr2 (by simp))) (frL_mono fr3 (by simp))) (frL_wr (by simp))) ⟨?_, ?_, Or.inr (Or.inr ⟨?_, A⟩)⟩ A
      · rw [wr_at, upd_ne _ _ (by decide), c7, wr_at, upd_ne _ _ (by decide)]; exact C.1
      · rw [wr_at, upd_ne _ _ (by decide), c7, wr_at, upd_ne _ _ (by decide)]; exact C.2.1
      · rw [wr_at, upd_ne _ _ (by decide), c7, wr_at, upd_at]
    refine sc_findLeast W N3 H2 (fun f τ3 hf fr3 ha => ⟨Or.inr rfl, ?_⟩) (fun hx τ3 fr3 => ⟨Or.inl rfl, ?_⟩)
    · rintro _ rfl
      exact all τ3 1 fr3 (Or.inr ⟨by rw [wr_at, upd_at], f, hf, fun l hl => by rw [wr_ne _ _ _ (by decide)]; exact (ha l hl).2⟩)
    · rintro _ rfl
      exact all τ3 0 fr3 (Or.inl ⟨by rw [wr_at, upd_at], hx⟩)
theorem crit_eq (W : Wf n m a b) {l : Nat} (hl : l < m) : ∃ X, ixS n m a b allS = X + 1 ∧ ((DgS n m a b (butS l) < X ∨ (DgS n m a b (butS l) = X ∧ exc m a b (Lk X) (butS l))) → crit n m a b l = true) ∧ ((X < DgS n m a b (butS l) ∨ (DgS n m a b (butS l) = X ∧ ¬ exc m a b (Lk X) (butS l))) → crit n m a b l = false) := by
  have d1 : 1 ≤ Dg n m a b := by
    have hw := W.2.2.2.1 l hl
    have := dg_le_Dg (n := n) (m := m) (a := a) (b := b) (show a l < n by omega)
    have h2 : 0 < dg m a b (a l) := by
      rcases Nat.eq_zero_or_pos (dg m a b (a l)) with z | z
      · have := fb_ct_zero.mp z l hl
        rw [inc_iff.mpr (Or.inl rfl)] at this; cases this
      · exact z
    omega
  have x := (ixS_01 (n := n) (m := m) (a := a) (b := b) allS)
  have da : DgS n m a b allS = Dg n m a b := rfl
  have y := (ixS_01 (n := n) (m := m) (a := a) (b := b) (butS l))
  refine ⟨ixS n m a b allS - 1, by omega, fun h => ?_, fun h => ?_⟩
  · refine decide_eq_true ?_
    rcases h with h | ⟨h, g⟩
    · omega
    · rw [← h] at g
      rw [ixS_t g]; omega
  · refine decide_eq_false ?_
    rcases h with h | ⟨h, g⟩
    · omega
    · rw [← h] at g
      rw [ixS_f g]; omega
theorem sc_dear {ls : Nat → Int32} (N : RN n m a b σ) (W : Wf n m a b) (C : CI n m a b ls σ) {Q : Int32 → kk_St → Prop} (h : ∀ τ, frL [7, 20, 21] σ τ → CI n m a b ls τ → Q (mk (crit n m a b) m) τ) : f_X7_dearLines σ Q := by
  have hm := W.2.2.1
  have hD := Dg_le8 W
  have da : DgS n m a b allS = Dg n m a b := rfl
  have x := (ixS_01 (n := n) (m := m) (a := a) (b := b) allS)
  unfold f_X7_dearLines
  dsimp only [kk_j1]
  constructor
  · intro e
    rcases C.2.1 with z | z
    · exact absurd z e
    · rw [z]; exact h σ frL_rf C
  · intro e
    refine lf_3_1 m (by omega) (fun k v τ => v = mk (crit n m a b) k ∧ frL [7, 20, 21] σ τ ∧ (τ.1 7 6 = -1 ∨ τ.1 7 6 = nI (ixS n m a b allS)) ∧ ∀ i, i ≠ 6 → τ.1 7 i = σ.1 7 i) (Nat.zero_le _) ⟨rfl, frL_rf, C.1, fun _ _ => rfl⟩ ?_ ?_
    · rintro rec k _ τ hk ⟨rfl, fr, i6, i7⟩ hrec
      have Nk := RN_fr N fr (by simp)
      rw [Nk.2.1]
      refine br_f (nI_ge hk (by omega)) (sc_allLines Nk hm ?_)
      refine sc_fewest Nk W i6 (fun τ2 fr2 j7 j6 => ?_)
      have N2 := RN_fr Nk fr2 (by simp)
      obtain ⟨X, hX, ct, cf⟩ := crit_eq W hk
      have em : mk (fun _ => true) m &&& (((1 : Int32) <<< (nI k &&& 31)) ^^^ (-1 : Int32)) = mk (butS k) m := mk_clr hk (by omega)
      rw [em, show (1 : Int32) = nI 1 from rfl, z_sub (by omega), show ixS n m a b allS - 1 = X by omega]
      have pu := mk_push (crit n m a b) (n := k) (by omega)
      refine sc_canDo N2 W (by omega) (fun hx τ3 fr3 => ?_) (fun hx τ3 fr3 => ?_)
      · refine br_f (by decide) ?_
        rintro _ rfl
        rw [ct hx, if_pos rfl] at pu
        refine hrec _ _ ⟨pu, frL_tr (frL_tr fr fr2) (frL_mono fr3 (by simp)), ?_, fun i hi => ?_⟩
        · rw [fr3.1 7 (by simp)]; exact Or.inr j6
        · rw [fr3.1 7 (by simp), j7 i hi, i7 i hi]
      · refine br_t rfl ?_
        rw [cf hx] at pu
        refine hrec _ _ ⟨pu, frL_tr (frL_tr fr fr2) (frL_mono fr3 (by simp)), ?_, fun i hi => ?_⟩
        · rw [fr3.1 7 (by simp)]; exact Or.inr j6
        · rw [fr3.1 7 (by simp), j7 i hi, i7 i hi]
    · rintro rec _ τ ⟨rfl, fr, i6, i7⟩
      have Nk := RN_fr N fr (by simp)
      rw [Nk.2.1]
      refine br_t (nI_le (Nat.le_refl _) (by omega)) ?_
      rintro _ rfl
      rw [wr_at, upd_at]
      refine h _ (frL_tr fr (frL_wr (by simp))) (CI_new C ?_ ?_ ?_ ?_ ?_)
      · rw [wr_at, upd_ne _ _ (by decide)]; exact i7 4 (by decide)
      · rw [wr_at, upd_ne _ _ (by decide)]; exact i7 5 (by decide)
      · rw [wr_ne _ _ _ (by decide), fr.1 22 (by simp)]
      · rw [wr_at, upd_ne _ _ (by decide)]; exact i6
      · rw [wr_at, upd_at]; exact Or.inr rfl
end
