/-! pairs: index first take critical listed refused -/
theorem ixbr {v : Int32} {k : Nat} (hk : k + 1 < 2 ^ 31) {A B : Prop} (h1 : isIx v (k + 1) = true → B) (h0 : isIx v (k + 1) = false → A) : (v < 0 → A) ∧ (¬ v < 0 → (nI k < v → A) ∧ (¬ nI k < v → B)) := by
  cases h : isIx v (k + 1) with
  | true =>
    obtain ⟨j, hj, rfl⟩ := isIx_ex h
    exact br_f (nI_nlt (a := j) (b := 0) (Nat.zero_le _) (by omega)) (br_f (nI_nlt (by omega) (by omega)) (h1 h))
  | false =>
    refine ⟨fun _ => h0 h, fun z => ⟨fun _ => h0 h, fun y => ?_⟩⟩
    exfalso
    rw [isIx_br hk, decide_eq_false z] at h
    have h : nI (k + 1) ≤ v := by simpa using h
    have e1 := Int32.le_iff_toInt_le.mp h
    have e2 := mt Int32.lt_iff_toInt_lt.mpr y
    rw [nI_toInt hk] at e1
    rw [nI_toInt (show k < 2 ^ 31 by omega)] at e2
    omega
theorem ixbr' {v : Int32} {k : Nat} (hk : k + 1 < 2 ^ 31) {A B : Prop} (h1 : isIx v (k + 1) = true → B) (h0 : isIx v (k + 1) = false → A) : (v < 0 → A) ∧ (¬ v < 0 → (v ≤ nI k → B) ∧ (¬ v ≤ nI k → A)) := by
  obtain ⟨x, y⟩ := ixbr (A := A) (B := B) hk h1 h0
  refine ⟨x, fun z => ⟨fun u => (y z).2 (fun w => ?_), fun u => (y z).1 ?_⟩⟩
  · have e1 := Int32.le_iff_toInt_le.mp u
    have e2 := Int32.lt_iff_toInt_lt.mp w
    omega
  · rw [Int32.lt_iff_toInt_lt]
    have e1 := mt Int32.le_iff_toInt_le.mpr u
    omega
theorem sc_isFew {v : Int32} {Q : Int32 → Prop} (h : Q (bI (isIx v 10))) : f_X10_isFew v Q := by
  unfold f_X10_isFew
  dsimp only [kk_j1, kk_j0]
  refine ixbr (k := 9) (by omega) (fun z => ?_) (fun z => ?_)
  · rw [z] at h; exact ⟨Or.inr rfl, h⟩
  · rw [z] at h; exact ⟨Or.inl rfl, h⟩
theorem Rest_ci {n m : Nat} {a b : Nat → Nat} {kp ls : Nat → Int32} {kf gf : Bool} {σ1 σ2 σ1' σ2' : kk_St} {L2 F2 : List Nat} (h : Rest n m a b kp ls kf gf σ1 σ2) (f1 : frL [7, 20, 21, 22] σ1 σ1') (C : CI n m a b ls σ1') (f2 : frF L2 F2 σ2 σ2') (h2 : 4 ∉ L2 ∧ 5 ∉ L2 ∧ 7 ∉ L2) (h3 : 8 ∉ F2 ∧ 12 ∉ F2) : Rest n m a b kp ls kf gf σ1' σ2' := by
  obtain ⟨b4, b5, b7⟩ := h2
  obtain ⟨r1, r2, r3, r4⟩ := h
  refine ⟨?_, ?_, ?_, C⟩
  · rw [f1.1 0 (by simp), f1.1 31 (by simp), f2.2.1 8 h3.1, f2.1 5 b5 (by decide)]; exact r1
  · rw [f1.1 4 (by simp), f1.1 19 (by simp), f2.2.1 12 h3.2, f2.1 7 b7 (by decide)]; exact r2
  · rw [f1.1 32 (by simp), f2.1 4 b4 (by decide)]; exact r3
theorem Rel_ci {n m : Nat} {a b : Nat → Nat} {c kp ls : Nat → Int32} {kf gf : Bool} {σ1 σ2 σ1' σ2' : kk_St} (W : Wf n m a b) (P : Pr n m a b c) (M : RM n m a b c σ2) (N : RN n m a b σ1) (K : RK m c σ1) (Z : Rest n m a b kp ls kf gf σ1 σ2) (f1 : frL [7, 20, 21, 22] σ1 σ1') (C : CI n m a b ls σ1') (f2 : frF [10, 11, 12, 13, 14, 15] [17, 23] σ2 σ2') : Rel σ1' σ2' :=
  ⟨n, m, a, b, c, kp, ls, kf, gf, W, P, RM_fr M f2 (by simp) (by simp), RN_fr N f1 (by simp), RK_fr K f1 (by simp), Rest_ci Z f1 C f2 (by simp) (by simp)⟩
theorem q_index : pr_index Rel := by
  rintro σ1 σ2 ⟨n, m, a, b, c, kp, ls, kf, gf, W, P, M, N, K, Z⟩ _
  have hm := W.2.2.1
  have hD := Dg_le8 W
  unfold f_X10_index
  have C := Z.2.2.2
  refine sc_fewest N W C.1 (fun τ fr h7 h6 => ?_)
  unfold f_X11_index
  refine sm_allLines M hm ?_
  refine sm_indexOf (S := allS) M W (by have : DgS n m a b allS = Dg n m a b := rfl; omega) (fun τ2 fr2 => ⟨rfl, ?_⟩)
  refine Rel_ci W P M N K Z (frL_mono fr (by simp)) (CI_new C (h7 4 (by decide)) (h7 5 (by decide)) (fr.1 22 (by simp)) (Or.inr h6) ?_) fr2
  rw [h7 7 (by decide)]; exact C.2.1
theorem q_critical : pr_critical Rel := by
  rintro σ1 σ2 ⟨n, m, a, b, c, kp, ls, kf, gf, W, P, M, N, K, Z⟩ _
  have hm := W.2.2.1
  have hD := Dg_le8 W
  have da : DgS n m a b allS = Dg n m a b := rfl
  unfold f_X10_critical
  refine sc_dear N W Z.2.2.2 (fun τ fr C => ?_)
  unfold f_X11_critical f_X11_index
  refine sm_allLines M hm ?_
  refine sm_indexOf (S := allS) M W (by omega) (fun τ2 fr2 => ?_)
  refine lf_3_1 m (by omega) (fun k x ρ => x = mk (crit n m a b) k ∧ frF [10, 11, 12, 13, 14, 15] [17, 23] σ2 ρ) (Nat.zero_le _) ⟨rfl, fr2⟩ ?_ ?_
  · rintro rec k _ ρ hk ⟨rfl, fρ⟩ hrec
    have Mk := RM_fr M fρ (by simp) (by simp)
    rw [Mk.2.1]
    refine br_f (nI_ge hk (by omega)) (sm_allLines Mk hm ?_)
    have em : mk (fun _ => true) m &&& (((1 : Int32) <<< (nI k &&& 31)) ^^^ (-1 : Int32)) = mk (butS k) m := mk_clr hk (by omega)
    rw [em]
    have dl := DgS_le (n := n) (m := m) (a := a) (b := b) (butS k)
    refine sm_indexOf Mk W (by omega) (fun τ3 fr3 => ?_)
    have x := (ixS_01 (n := n) (m := m) (a := a) (b := b) allS)
    have y := (ixS_01 (n := n) (m := m) (a := a) (b := b) (butS k))
    have pu := mk_push (crit n m a b) (n := k) (by omega)
    dsimp only [kk_j1]
    rcases Nat.lt_or_ge (ixS n m a b (butS k)) (ixS n m a b allS) with g | g
    · refine br_f (nI_ge g (by omega)) ?_
      rintro _ rfl
      have e : crit n m a b k = true := decide_eq_true g
      rw [e, if_pos rfl] at pu
      exact hrec _ _ ⟨pu, frF_tr fρ fr3⟩
    · refine br_t (nI_le g (by omega)) ?_
      have e : crit n m a b k = false := decide_eq_false (by omega)
      rw [e] at pu
      exact hrec _ _ ⟨pu, frF_tr fρ fr3⟩
  · rintro rec _ ρ ⟨rfl, fρ⟩
    have Mk := RM_fr M fρ (by simp) (by simp)
    rw [Mk.2.1]
    exact br_t (nI_le (Nat.le_refl _) (by omega)) ⟨rfl, Rel_ci W P M N K Z (frL_mono fr (by simp)) C fρ⟩
theorem q_first : pr_first Rel := by
  rintro σ1 σ2 ⟨n, m, a, b, c, kp, ls, kf, gf, W, P, M, N, K, Z⟩ v1 v2
  have hm := W.2.2.1
  have same : Rel σ1 σ2 := ⟨n, m, a, b, c, kp, ls, kf, gf, W, P, M, N, K, Z⟩
  unfold f_X10_first
  refine sc_isFew ?_
  dsimp only [kk_j0]
  have mod0 : ∀ {Q : Int32 → kk_St → Prop}, (isIx v1 10 = false ∨ isIx v2 m = false) → Q (-1) σ2 → f_X11_first v1 v2 σ2 Q := by
    intro Q h q
    unfold f_X11_first
    refine sp_in ?_
    rw [show (9 : Int32) = nI 9 from rfl, isIx_in2 (by omega)]
    dsimp only [kk_j0]
    refine bI_zn (fun _ => q) (fun z => ?_)
    refine sm_isLine M hm ?_
    refine bI_nz (fun y => ?_) (fun _ => q)
    rcases h with h | h
    · rw [z] at h; cases h
    · rw [y] at h; cases h
  refine bI_zn (fun z => mod0 (Or.inl z) ⟨rfl, same⟩) (fun z => ?_)
  refine sc_isLine N hm ?_
  refine bI_nz (fun y => ?_) (fun y => mod0 (Or.inr y) ⟨rfl, same⟩)
  obtain ⟨k, hk, rfl⟩ := isIx_ex z
  obtain ⟨l, hl, rfl⟩ := isIx_ex y
  have mod : ∀ {Q : Int32 → kk_St → Prop}, (∀ f τ, fstc m a b (Lk k) allS f → frF [10, 11, 12, 13, 14, 15] [17, 23] σ2 τ → Q (nI (f l)) τ) → (¬ exc m a b (Lk k) allS → ∀ τ, frF [10, 11, 12, 13, 14, 15] [17, 23] σ2 τ → Q (-2) τ) → f_X11_first (nI k) (nI l) σ2 Q := by
    intro Q q1 q0
    unfold f_X11_first
    refine sp_in ?_
    rw [show (9 : Int32) = nI 9 from rfl, isIx_in2 (by omega), z]
    dsimp only [kk_j0, kk_j1]
    refine br_f (by decide) (sm_isLine M hm ?_)
    rw [y]
    refine jn_t (by decide) (sm_allLines M hm ?_)
    refine sm_laysFirst (S := allS) M W (by omega) (fun f τ hf fr ha => br_f (by decide) ⟨vp_lt (by omega) (by omega), ?_⟩) (fun hx τ fr => br_t rfl (q0 hx τ fr))
    rw [rd_nI (by omega), ha l hl rfl]
    exact q1 f τ hf fr
  dsimp only [kk_j1]
  refine sc_findFirst N W Z.2.2.2 (by omega) (fun f τ fr C hf ha => br_f (by decide) ⟨vp_lt (by omega) (by omega), ?_⟩) (fun τ fr C hx => br_t rfl ?_)
  · rw [rd_nI (by omega), ha l hl]
    refine mod (fun f' τ' hf' fr' => ⟨by rw [fstc_eq hf hf' l hl], Rel_ci W P M N K Z fr C fr'⟩) (fun hx => absurd ⟨f, hf.1⟩ hx)
  · exact mod (fun f' τ' hf' _ => absurd ⟨f', hf'.1⟩ hx) (fun _ τ' fr' => ⟨rfl, Rel_ci W P M N K Z fr C fr'⟩)
theorem q_listed : pr_listed Rel := by
  rintro σ1 σ2 ⟨n, m, a, b, c, kp, ls, kf, gf, W, P, M, N, K, Z⟩ v1
  have hm := W.2.2.1
  have same : Rel σ1 σ2 := ⟨n, m, a, b, c, kp, ls, kf, gf, W, P, M, N, K, Z⟩
  unfold f_X10_listed
  refine sc_isLine N hm ?_
  refine bI_nz (fun z => ?_) (fun z => ?_)
  · obtain ⟨l, hl, rfl⟩ := isIx_ex z
    rw [N.2.1]
    rcases Nat.lt_or_ge 9 m with g | g
    · refine br_f (nI_ge (a := 9) (b := m) g (by omega)) ?_
      unfold f_X11_listed
      refine sm_isLine M hm ?_
      rw [z, M.2.1]
      exact jn_t (by decide) (br_f (nI_ge (a := 9) (b := m) g (by omega)) ⟨rfl, same⟩)
    · refine br_t (nI_le (a := m) (b := 9) g (by omega)) ?_
      have mod : ∀ {Q : Int32 → kk_St → Prop}, (∀ f τ, fstc m a b (Ll ls) allS f → frF [10, 11, 12, 13, 14, 15] [17, 23] σ2 τ → Q (nI (f l)) τ) → (¬ exc m a b (Ll ls) allS → ∀ τ, frF [10, 11, 12, 13, 14, 15] [17, 23] σ2 τ → Q (-2) τ) → f_X11_listed (nI l) σ2 Q := by
        intro Q q1 q0
        unfold f_X11_listed
        refine sm_isLine M hm ?_
        rw [z, M.2.1]
        refine jn_t (by decide) (br_t (nI_le (a := m) (b := 9) g (by omega)) ?_)
        refine lf_2_0 m (by omega) (fun k τ => frF [10, 11, 12, 13, 14, 15] [17, 23] σ2 τ ∧ ∀ j, j < k → τ.1 10 j = ls j) (Nat.zero_le _) ⟨frF_rf, fun _ h => absurd h (Nat.not_lt_zero _)⟩ ?_ ?_
        · rintro rec k τ hk ⟨fr, i1⟩ hrec
          have Mk := RM_fr M fr (by simp) (by simp)
          rw [Mk.2.1]
          refine br_f (nI_ge hk (by omega)) ⟨vp_lt (by omega) (by omega), vp_lt (by omega) (by omega), ?_⟩
          rintro _ rfl
          refine hrec _ ⟨frF_w fr (by simp) (by decide), fun j hj => ?_⟩
          rw [nI_clamp (by omega), wr_at, upd_if]
          by_cases e : j = k
          · rw [if_pos e, rd_nI (by omega), fr.1 4 (by simp) (by decide), e]; exact (Z.2.2.1 k hk).2.1
          · rw [if_neg e]; exact i1 j (by omega)
        · rintro rec τ ⟨fr, i1⟩
          have Mk := RM_fr M fr (by simp) (by simp)
          rw [Mk.2.1]
          refine br_t (nI_le (Nat.le_refl _) (by omega)) ?_
          rintro _ rfl
          have fr' : frF [10, 11, 12, 13, 14, 15] [17, 23] σ2 (kk_wr τ 0 17 0) := frF_tr fr (frF_f (by simp))
          have M' := RM_fr M fr' (by simp) (by simp)
          refine sm_allLines M' hm ?_
          dsimp only [kk_j1]
          refine sm_picksFirst (O := fun q l => bt (ls l) q) (S := allS) M' W (fun j hj => ?_) (Or.inl (by rw [wr_at, upd_at])) (fun f τ' hf g' ha => br_f (by decide) ⟨vp_lt (by omega) (by omega), ?_⟩) (fun hx τ' g' => br_t rfl (q0 hx τ' (frF_tr fr' (frF_mono g' (by simp) (by simp)))))
          · rw [wr_ne _ _ _ (by decide), i1 j hj]
            obtain ⟨x, x1, x2⟩ := (Z.2.2.1 j hj).2.2
            refine mk_ext (fun q hq => ?_)
            by_cases e : q < 9
            · rw [decide_eq_true e, Bool.true_and]
            · rw [decide_eq_false e, Bool.false_and, x2, bt_nI q hq]
              exact Nat.testBit_lt_two_pow (Nat.lt_of_lt_of_le x1 (Nat.pow_le_pow_right (n := 2) (i := 9) (by omega) (by omega)))
          · rw [rd_nI (by omega), ha l hl rfl]
            exact q1 f τ' hf (frF_tr fr' (frF_mono g' (by simp) (by simp)))
      dsimp only [kk_j1]
      refine sc_findListed N W Z.2.2.2 (fun k hk => (Z.2.2.1 k hk).1) (fun f τ fr C hf ha => br_f (by decide) ⟨vp_lt (by omega) (by omega), ?_⟩) (fun τ fr C hx => br_t rfl ?_)
      · rw [rd_nI (by omega), ha l hl]
        refine mod (fun f' τ' hf' fr' => ⟨by rw [fstc_eq hf hf' l hl], Rel_ci W P M N K Z fr C fr'⟩) (fun hx => absurd ⟨f, hf.1⟩ hx)
      · exact mod (fun f' τ' hf' _ => absurd ⟨f', hf'.1⟩ hx) (fun _ τ' fr' => ⟨rfl, Rel_ci W P M N K Z fr C fr'⟩)
  · unfold f_X11_listed
    refine sm_isLine M hm ?_
    rw [z]
    exact jn_f rfl ⟨rfl, same⟩
