/-! pairs: take refused -/
theorem q_take : pr_take Rel := by
  rintro σ1 σ2 ⟨n, m, a, b, c, kp, ls, kf, gf, W, P, M, N, K, Z⟩ v1
  have hm := W.2.2.1
  have hD := Dg_le8 W
  have same : Rel σ1 σ2 := ⟨n, m, a, b, c, kp, ls, kf, gf, W, P, M, N, K, Z⟩
  unfold f_X10_take f_X3_colours
  dsimp only [kk_j1]
  rw [N.2.2.1, nI_1]
  refine ixbr (by omega) (fun z => ?_) (fun z => ?_)
  · obtain ⟨k, hk, rfl⟩ := isIx_ex z
    have mod : ∀ {Q : Int32 → kk_St → Prop}, (∀ f τ, fstc m a b (Lk k) allS f → frF [3, 10, 11, 12, 13, 14, 15] [17, 23] σ2 τ → (∀ l, l < m → τ.1 3 l = nI (f l)) → Q 1 τ) → (¬ exc m a b (Lk k) allS → ∀ τ, frF [10, 11, 12, 13, 14, 15] [17, 23] σ2 τ → Q 0 τ) → f_X11_take (nI k) σ2 Q := by
      intro Q q1 q0
      unfold f_X11_take
      refine sm_degree M W (sp_in ?_)
      rw [nI_1, isIx_in2 (by omega), z]
      dsimp only [kk_j1]
      refine br_f (by decide) (sm_allLines M hm ?_)
      refine sm_laysFirst (S := allS) M W (by omega) (fun f τ hf fr ha => jn_t (by decide) ?_) (fun hx τ fr => jn_f rfl (q0 hx τ fr))
      refine lf_2_0 m (by omega) (fun i ρ => frF [3, 10, 11, 12, 13, 14, 15] [17, 23] σ2 ρ ∧ ρ.1 11 = τ.1 11 ∧ ∀ l, l < i → ρ.1 3 l = nI (f l)) (Nat.zero_le _) ⟨frF_mono fr (by simp) (by simp), rfl, fun _ h => absurd h (Nat.not_lt_zero _)⟩ ?_ ?_
      · rintro rec i ρ hi ⟨fρ, e11, i1⟩ hrec
        have e2 : ρ.1 0 2 = nI m := by rw [fρ.2.1 2 (by simp)]; exact M.2.1
        rw [e2]
        refine br_f (nI_ge hi (by omega)) ⟨vp_lt (by omega) (by omega), vp_lt (by omega) (by omega), ?_⟩
        rintro _ rfl
        refine hrec _ ⟨frF_w fρ (by simp) (by decide), by rw [wr_ne _ _ _ (by decide)]; exact e11, fun l hl => ?_⟩
        rw [nI_clamp (by omega), wr_at, upd_if]
        by_cases e : l = i
        · rw [if_pos e, rd_nI (by omega), e11, ha i hi rfl, e]
        · rw [if_neg e]; exact i1 l (by omega)
      · rintro rec ρ ⟨fρ, e11, i1⟩
        have e2 : ρ.1 0 2 = nI m := by rw [fρ.2.1 2 (by simp)]; exact M.2.1
        rw [e2]
        exact br_t (nI_le (Nat.le_refl _) (by omega)) (q1 f ρ hf fρ i1)
    refine sc_findFirst N W Z.2.2.2 (by omega) (fun f τ fr C hf ha => jn_t (by decide) ?_) (fun τ fr C hx => jn_f rfl ?_)
    · have Nτ := RN_fr N fr (by simp)
      have f9 : ∀ l, l < m → f l < k := fun l hl => of_decide_eq_true (hf.1.1 l hl rfl)
      refine sc_clear hm (fun τ0 K0 F0 => ?_)
      have Pk : ∀ i, i ≤ m → Pr n m a b (fun l => if l < i then nI (f l) else -1) := fun i hi => by
        refine ⟨fun l hl => ?_, fun x y hx hy hmt e => ?_⟩
        · dsimp only
          by_cases z : l < i
          · rw [if_pos z]; exact Or.inr ⟨f l, by have := f9 l hl; omega, rfl⟩
          · rw [if_neg z]; exact Or.inl rfl
        · dsimp only at e ⊢
          by_cases z : x < i
          · rw [if_pos z] at e ⊢
            have fx := f9 x hx
            have fy := f9 y hy
            by_cases z2 : y < i
            · rw [if_pos z2] at e
              exact absurd ((nI_ne (by omega) (by omega)).mp e) (hf.1.2 x y hx hy rfl rfl hmt)
            · rw [if_neg z2] at e; exact e
          · rw [if_neg z]
      refine lf_2_0 m (by omega) (fun i ρ => frL [16, 17] τ ρ ∧ RK m (fun l => if l < i then nI (f l) else -1) ρ) (Nat.zero_le _) ⟨F0, RK_cong K0 (fun l _ => by rw [if_neg (Nat.not_lt_zero _)])⟩ ?_ ?_
      · rintro rec i ρ hi ⟨fρ, Kρ⟩ hrec
        have Nρ := RN_fr Nτ fρ (by simp)
        rw [Nρ.2.1]
        refine br_f (nI_ge hi (by omega)) ⟨vp_lt (by omega) (by omega), ?_⟩
        rw [rd_nI (by omega), fρ.1 22 (by simp), ha i hi]
        have fi := f9 i hi
        refine sc_give Kρ (Pr9 W (Pk i (by omega))) hm hi (by omega) (fun ρ' K' F' => hrec _ ⟨frL_tr fρ F', RK_cong K' (fun l _ => ?_)⟩)
        rw [upd_if]
        by_cases e : l = i
        · rw [if_pos e, if_pos (by omega), e]
        · rw [if_neg e]
          by_cases e2 : l < i
          · rw [if_pos e2, if_pos (by omega)]
          · rw [if_neg e2, if_neg (by omega)]
      · rintro rec ρ ⟨fρ, Kρ⟩
        have Nρ := RN_fr Nτ fρ (by simp)
        rw [Nρ.2.1]
        refine br_t (nI_le (Nat.le_refl _) (by omega)) (mod (fun f' τ' hf' fr' h3 => ⟨rfl, ?_⟩) (fun hx => absurd ⟨f, hf.1⟩ hx))
        refine ⟨n, m, a, b, _, kp, ls, kf, gf, W, Pk m (Nat.le_refl _), RM_col M fr' (by simp) (by simp) (fun l hl => ?_), Nρ, Kρ, ?_⟩
        · rw [h3 l hl, if_pos hl, fstc_eq hf hf' l hl]
        · have Z1 := Rest_ci Z fr C fr' (by simp) (by simp)
          exact Rest_fr Z1 fρ (frF_rf (L := []) (F := [])) (by simp) (by simp) (by simp)
    · exact mod (fun f' τ' hf' _ => absurd ⟨f', hf'.1⟩ hx) (fun _ τ' fr' => ⟨rfl, Rel_ci W P M N K Z fr C fr'⟩)
  · unfold f_X11_take
    refine sm_degree M W (sp_in ?_)
    rw [nI_1, isIx_in2 (by omega), z]
    dsimp only [kk_j1]
    exact br_t rfl ⟨rfl, same⟩
theorem ix2 {v : Int32} : (if (0 : Int32) ≤ v ∧ v ≤ 1 then (1 : Int32) else 0) = bI (isIx v 2) := isIx_in2 (m := 1) (by omega)
theorem q_refused : pr_refused Rel := by
  rintro σ1 σ2 ⟨n, m, a, b, c, kp, ls, kf, gf, W, P, M, N, K, Z⟩ v1 v2
  have hm := W.2.2.1
  have hn := W.2.1
  have hD := Dg_le8 W
  have same : Rel σ1 σ2 := ⟨n, m, a, b, c, kp, ls, kf, gf, W, P, M, N, K, Z⟩
  have C := Z.2.2.2
  unfold f_X10_refused
  refine sc_isFew ?_
  dsimp only [kk_j0]
  have mod0 : ∀ {Q : Int32 → kk_St → Prop}, (isIx v1 10 = false ∨ isIx v2 2 = false) → Q (-1) σ2 → f_X11_refused v1 v2 σ2 Q := by
    intro Q h q
    unfold f_X11_refused
    refine sp_in ?_
    rw [show (9 : Int32) = nI 9 from rfl, isIx_in2 (by omega)]
    dsimp only [kk_j0]
    refine bI_zn (fun _ => q) (fun z => ?_)
    refine sp_in ?_
    rw [ix2]
    refine bI_nz (fun y => ?_) (fun _ => q)
    rcases h with h | h
    · rw [z] at h; cases h
    · rw [y] at h; cases h
  refine bI_zn (fun z => mod0 (Or.inl z) ⟨rfl, same⟩) (fun z => ?_)
  refine ixbr' (k := 1) (by omega) (fun y => ?_) (fun y => mod0 (Or.inr y) ⟨rfl, same⟩)
  obtain ⟨k, hk, rfl⟩ := isIx_ex z
  rw [N.2.2.1]
  have dgA : ∀ p, dgS m a b (bt (mk (fun _ => true) m)) p = dg m a b p := fun p => fb_ct_cong (fun l hl => by rw [bt_mk hm hl, Bool.true_and])
  have db : ∀ p, dg m a b p ≤ m := fun p => fb_ct_le _ _
  have modA : ∀ {Q : Int32 → kk_St → Prop} p, p < n → k < dg m a b p → (∀ j, j < p → dg m a b j ≤ k) → Q (if v2 = 0 then 1 else nI p) σ2 → f_X11_refused (nI k) v2 σ2 Q := by
    intro Q p hp h1 h2 q
    unfold f_X11_refused
    refine sp_in ?_
    rw [show (9 : Int32) = nI 9 from rfl, isIx_in2 (by omega), z]
    dsimp only [kk_j0]
    refine br_f (by decide) (sp_in ?_)
    rw [ix2, y]
    refine jn_t (by decide) ?_
    refine lf_1_0 p (by omega) (fun _ => True) (Nat.zero_le _) trivial ?_ ?_
    · rintro rec j hj _ hrec
      rw [M.1]
      refine br_f (nI_ge (by omega) (by omega)) (sm_allLines M hm ?_)
      refine sm_linesAt M W (by omega) ?_
      rw [dgA j]
      exact br_t (nI_le (h2 j hj) (by omega)) (hrec trivial)
    · rintro rec _
      rw [M.1]
      refine br_f (nI_ge hp (by omega)) (sm_allLines M hm ?_)
      refine sm_linesAt M W (by omega) ?_
      rw [dgA p]
      have := db p
      refine br_f (nI_ge h1 (by omega)) ?_
      dsimp only [kk_j1]
      refine ⟨fun e => ?_, fun e => ?_⟩
      · rw [if_neg e] at q; exact q
      · rw [if_pos e] at q; exact q
  have modB : ∀ {Q : Int32 → kk_St → Prop}, (∀ j, j < n → dg m a b j ≤ k) → (nI (crS n m a b allS k) = 0 → v2 = 1 → Q 0 σ2) → (nI (crS n m a b allS k) = 0 → ¬ v2 = 1 → (exc m a b (Lk k) allS → ∀ τ, frF [10, 11, 12, 13, 14, 15] [17, 23] σ2 τ → Q 0 τ) ∧ (¬ exc m a b (Lk k) allS → ∀ τ, frF [10, 11, 12, 13, 14, 15] [17, 23] σ2 τ → Q 3 τ)) → (¬ nI (crS n m a b allS k) = 0 → Q (if v2 = 0 then 2 else nI (crS n m a b allS k)) σ2) → f_X11_refused (nI k) v2 σ2 Q := by
    intro Q h2 q1 q2 q3
    unfold f_X11_refused
    refine sp_in ?_
    rw [show (9 : Int32) = nI 9 from rfl, isIx_in2 (by omega), z]
    dsimp only [kk_j0]
    refine br_f (by decide) (sp_in ?_)
    rw [ix2, y]
    refine jn_t (by decide) ?_
    refine lf_1_0 n (by omega) (fun _ => True) (Nat.zero_le _) trivial ?_ ?_
    · rintro rec j hj _ hrec
      rw [M.1]
      refine br_f (nI_ge (by omega) (by omega)) (sm_allLines M hm ?_)
      refine sm_linesAt M W (by omega) ?_
      rw [dgA j]
      exact br_t (nI_le (h2 j hj) (by omega)) (hrec trivial)
    · rintro rec _
      rw [M.1]
      refine br_t (nI_le (Nat.le_refl _) (by omega)) ?_
      refine sm_fullSet M W (by omega) ?_
      refine ⟨fun e => ?_, fun e => ?_⟩
      · dsimp only [kk_j1, kk_j2]
        refine ⟨fun e2 => q1 e e2, fun e2 => ?_⟩
        refine sm_allLines M hm ?_
        refine sm_laysFirst (S := allS) M W (by omega) (fun f τ hf fr _ => br_f (by decide) ((q2 e e2).1 ⟨f, hf.1⟩ τ fr)) (fun hx τ fr => br_t rfl ((q2 e e2).2 hx τ fr))
      · have := q3 e
        dsimp only [kk_j1]
        refine ⟨fun e2 => ?_, fun e2 => ?_⟩
        · rw [if_neg e2] at this; exact this
        · rw [if_pos e2] at this; exact this
  rcases Nat.lt_or_ge k (Dg n m a b) with g | g
  · refine br_f (nI_ge g (by omega)) ?_
    obtain ⟨p, hp, p1, p2⟩ : ∃ p, p < n ∧ k < dg m a b p ∧ ∀ j, j < p → dg m a b j ≤ k := by
      rcases fst_ex (fun p => decide (k < dg m a b p)) n with ⟨p, x1, x2, x3⟩ | x
      · exact ⟨p, x1, of_decide_eq_true x2, fun j hj => Nat.le_of_not_lt (of_decide_eq_false (x3 j hj))⟩
      · exfalso
        have g : k < mx (dg m a b) n := g
        rcases mx_at (dg m a b) (n := n) with e | ⟨p, hp, e⟩
        · omega
        · have := of_decide_eq_false (x p hp)
          omega
    dsimp only [kk_j1]
    refine ⟨fun e => ?_, fun e => ?_⟩
    · unfold f_X6_leastPostAbove
      refine lf_1_0 p (by omega) (fun _ => True) (Nat.zero_le _) trivial ?_ ?_
      · rintro rec j hj _ hrec
        rw [N.1]
        refine br_f (nI_ge (by omega) (by omega)) ⟨vp_lt (by omega) (by omega), ?_⟩
        rw [rd_nI (by omega), N.2.2.2.2.2.2.1 j (by omega)]
        refine sp_bitCountM (by omega) ?_
        exact br_t (nI_le (p2 j hj) (by omega)) (hrec trivial)
      · rintro rec _
        rw [N.1]
        refine br_f (nI_ge (by omega) (by omega)) ⟨vp_lt (by omega) (by omega), ?_⟩
        rw [rd_nI (by omega), N.2.2.2.2.2.2.1 p (by omega)]
        refine sp_bitCountM (by omega) ?_
        have e1 : fb_ct (fun l => inc a b l p) m = dg m a b p := rfl
        have := db p
        rw [e1]
        refine br_f (nI_ge p1 (by omega)) (modA p hp p1 p2 ⟨?_, same⟩)
        rw [if_neg e]
    · refine modA p hp p1 p2 ⟨?_, same⟩
      rw [if_pos e]
  · have all : ∀ j, j < n → dg m a b j ≤ k := fun j hj => Nat.le_trans (dg_le_Dg hj) g
    refine br_t (nI_le g (by omega)) (sc_allLines N hm ?_)
    refine sc_crowdedSet (S := allS) N W (by omega) ?_
    refine ⟨fun e => ?_, fun e => ?_⟩
    · dsimp only [kk_j1, kk_j2]
      obtain ⟨w, hw, rfl⟩ := isIx_ex y
      refine ⟨fun e2 => ?_, fun e2 => ?_⟩
      · have w1 : nI w = 1 := by
          have : w ≠ 0 := fun x => e2 (by rw [x]; rfl)
          rw [show w = 1 by omega]; rfl
        exact modB all (fun _ _ => ⟨rfl, same⟩) (fun _ x => absurd w1 x) (fun x => absurd e x)
      · have w1 : ¬ nI w = 1 := by rw [e2]; decide
        have x := (ixS_01 (n := n) (m := m) (a := a) (b := b) allS)
        have da : DgS n m a b allS = Dg n m a b := rfl
        refine sc_fewest N W C.1 (fun τ fr h7 h6 => ?_)
        have C' : CI n m a b ls τ := CI_new C (h7 4 (by decide)) (h7 5 (by decide)) (fr.1 22 (by simp)) (Or.inr h6) (by rw [h7 7 (by decide)]; exact C.2.1)
        have R' : ∀ τ2, frF [10, 11, 12, 13, 14, 15] [17, 23] σ2 τ2 → Rel τ τ2 := fun τ2 fr2 => Rel_ci W P M N K Z (frL_mono fr (by simp)) C' fr2
        rcases Nat.lt_or_ge k (ixS n m a b allS) with g2 | g2
        · refine br_f (nI_ge g2 (by omega)) (modB all (fun _ y => absurd y w1) (fun _ _ => ⟨fun hx => absurd hx (ix_no g2), fun _ τ2 fr2 => ⟨rfl, R' τ2 fr2⟩⟩) (fun x => absurd e x))
        · refine br_t (nI_le g2 (by omega)) (modB all (fun _ y => absurd y w1) (fun _ _ => ⟨fun _ τ2 fr2 => ⟨rfl, R' τ2 fr2⟩, fun hx => absurd ?_ hx⟩) (fun x => absurd e x))
          by_cases ee : exc m a b (Lk (DgS n m a b allS)) allS
          · obtain ⟨f, f1, f2⟩ := ee
            exact ⟨f, fun l hl hs => decide_eq_true (by have := of_decide_eq_true (f1 l hl hs); omega), f2⟩
          · rw [ixS_f ee] at g2
            obtain ⟨f, f1, f2⟩ := exc_over W
            exact ⟨f, fun l hl hs => decide_eq_true (by have := of_decide_eq_true (f1 l hl hs); omega), f2⟩
    · dsimp only [kk_j1]
      refine ⟨fun e2 => ?_, fun e2 => ?_⟩
      · exact modB all (fun x => absurd x e) (fun x => absurd x e) (fun _ => ⟨by rw [if_neg e2], same⟩)
      · exact modB all (fun x => absurd x e) (fun x => absurd x e) (fun _ => ⟨by rw [if_pos e2], same⟩)
