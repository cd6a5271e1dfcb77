/-! pairs: chain, chains, longest -/
theorem q_chain : pr_chain Rel := by
  rintro σ1 σ2 ⟨n, m, a, b, c, kp, ls, kf, gf, W, P, M, N, K, Z⟩ v1 v2 v3 v4
  have hm := W.2.2.1
  have hn := W.2.1
  have hD := Dg_le8 W
  have same : Rel σ1 σ2 := ⟨n, m, a, b, c, kp, ls, kf, gf, W, P, M, N, K, Z⟩
  unfold f_X10_chain
  refine sc_isPost N hn ?_
  dsimp only [kk_j0]
  refine bI_zn (fun h1 => ?_) (fun h1 => ?_)
  · unfold f_X11_chain
    refine sm_isChain M W ?_
    rw [h1]
    exact jn_f rfl ⟨rfl, same⟩
  · refine sc_areUnlike N W ?_
    refine bI_nz (fun h2 => ?_) (fun h2 => ?_)
    · obtain ⟨p, hp, rfl⟩ := isIx_ex h1
      have h2' := h2
      rw [Bool.and_eq_true, Bool.and_eq_true] at h2'
      obtain ⟨e1, e2, e3⟩ := h2'
      obtain ⟨o, ho, rfl⟩ := isIx_ex e1
      obtain ⟨w, hw, rfl⟩ := isIx_ex e2
      refine sc_chainOf N K hm (by omega) (by omega) (by omega) ?_
      refine sc_postsOf N hn hm ?_
      intro x ex
      rw [mk_set hp (by omega)] at ex
      have mod : ∀ {Q : Int32 → kk_St → Prop}, (∀ τ, Rel σ1 τ → τ.1 0 9 = x →
          ((v4 = nI 0 → Q (mk (rch m a b (fun k => decide (c k = nI o) || decide (c k = nI w)) (fun k => inc a b k p)) m) τ) ∧
           (v4 = nI 1 → Q x τ) ∧
           (v4 = nI 2 → Q (if nI (fb_ct (rch m a b (fun k => decide (c k = nI o) || decide (c k = nI w)) (fun k => inc a b k p)) m) = nI (fb_ct (fun q => anyb (fun k => rch m a b (fun k => decide (c k = nI o) || decide (c k = nI w)) (fun k => inc a b k p) k && inc a b k q) m || decide (q = p)) n) then 1 else 0) τ) ∧
           (v4 = nI 3 → Q (if nI (fb_ct (fun k => rch m a b (fun k => decide (c k = nI o) || decide (c k = nI w)) (fun k => inc a b k p) k && decide (c k = nI o)) m) < nI (fb_ct (fun k => rch m a b (fun k => decide (c k = nI o) || decide (c k = nI w)) (fun k => inc a b k p) k && decide (c k = nI w)) m) then -1 else if nI (fb_ct (fun k => rch m a b (fun k => decide (c k = nI o) || decide (c k = nI w)) (fun k => inc a b k p) k && decide (c k = nI o)) m) = nI (fb_ct (fun k => rch m a b (fun k => decide (c k = nI o) || decide (c k = nI w)) (fun k => inc a b k p) k && decide (c k = nI w)) m) then 0 else 1) τ) ∧
           (v4.toInt < 0 ∨ (4 : Int) ≤ v4.toInt → Q (-2) τ))) → f_X11_chain (nI p) (nI o) (nI w) v4 σ2 Q := by
        intro Q g
        unfold f_X11_chain
        refine sm_isChain M W ?_
        rw [h1, h2]
        refine jn_t (by decide) ?_
        refine sm_chainIn M W (by decide) M.2.2.2.2 (by omega) (fun τ F2 e9 => ?_)
        have M2 := RM_fr M F2 (by simp) (by simp)
        refine sm_manyWith M2 W ?_
        refine sm_manyWith M2 W ?_
        generalize hG : rch m a b (fun k => decide (c k = nI o) || decide (c k = nI w)) (fun k => inc a b k p) = G at *
        have hR : Rel σ1 τ := ⟨n, m, a, b, c, kp, ls, kf, gf, W, P, M2, N, K, Rest_fr Z (frL_rf (L := [])) F2 (by simp) (by simp) (by simp)⟩
        have e9x : τ.1 0 9 = x := by
          rw [e9, ex]
          symm
          rw [mk_grow (n' := 9) hn (fun q hq1 hq2 => ?_)]
          · refine mk_cong (fun q _ => ?_)
            unfold chp
            rw [Bool.or_comm]
          · have : decide (q = p) = false := decide_eq_false (by omega)
            rw [this, Bool.or_false]
            refine anyb_no.mpr (fun k hk => ?_)
            have hw' := W.2.2.2.1 k hk
            have : inc a b k q = false := by
              cases hi : inc a b k q with
              | false => rfl
              | true => rcases inc_iff.mp hi with z | z <;> omega
            rw [this, Bool.and_false]
        have c1 : ∀ v : Int32, fb_ct (fun k => bt (mk G m) k && decide (c k = v)) m = fb_ct (fun k => G k && decide (c k = v)) m := fun v => fb_ct_cong (fun k hk => by rw [mk_bt _ _ (by omega)]; simp [hk])
        obtain ⟨g0, g1, g2, g3, g4⟩ := g τ hR e9x
        refine ⟨g0, fun z => by rw [e9x]; exact g1 z, fun z => ?_, fun z => ?_, g4⟩
        · dsimp only [kk_j1, kk_j0]
          have g2 := g2 z
          rw [e9x, ex]
          refine ⟨fun hz => ?_, fun hz => ?_⟩
          · have h0 := (mk_eq0 (by omega)).mp hz
            rw [if_neg] at g2
            · exact g2
            · rw [(fb_ct_zero).mpr h0]
              intro y
              have hpos : 0 < fb_ct (fun q => anyb (fun k => G k && inc a b k q) m || decide (q = p)) n := fb_ct_pos.mpr ⟨p, hp, by simp⟩
              have hle := fb_ct_le (fun q => anyb (fun k => G k && inc a b k q) m || decide (q = p)) n
              have := (nI_ne (by omega) (by omega)).mp y
              omega
          · refine sp_bitsOfM (by omega) ?_
            refine sp_bitsOfM (by omega) ?_
            exact jn_ite (P := fun t => Q t τ) g2
        · have g3 := g3 z
          dsimp only [kk_j1]
          rw [c1, c1]
          have l1 := fb_ct_le (fun k => G k && decide (c k = nI o)) m
          have l2 := fb_ct_le (fun k => G k && decide (c k = nI w)) m
          generalize fb_ct (fun k => G k && decide (c k = nI o)) m = x1 at *
          generalize fb_ct (fun k => G k && decide (c k = nI w)) m = x2 at *
          refine ⟨fun y1 => ⟨fun y2 => ?_, fun y2 => ?_⟩, fun y1 => ?_⟩
          · have e : nI x1 = nI x2 := Int32.le_antisymm y1 y2
            rw [if_neg (by rw [e]; exact Int32.lt_irrefl), if_pos e] at g3
            exact g3
          · rw [if_pos (Int32.not_le.mp y2)] at g3
            exact g3
          · rw [if_neg (fun y => y1 (Int32.le_of_lt y)), if_neg (fun y => y1 (by rw [y]; exact Int32.le_refl _))] at g3
            exact g3
      have done : ∀ {A B C D E : Prop}, (v4 = nI 0 → A) → (v4 = nI 1 → B) → (v4 = nI 2 → C) → (v4 = nI 3 → D) → (v4.toInt < 0 ∨ (4 : Int) ≤ v4.toInt → E) → (v4 = nI 0 → A) ∧ (v4 = nI 1 → B) ∧ (v4 = nI 2 → C) ∧ (v4 = nI 3 → D) ∧ (v4.toInt < 0 ∨ (4 : Int) ≤ v4.toInt → E) := fun a b c d e => ⟨a, b, c, d, e⟩
      have bad : ∀ {i j : Nat}, i < 4 → j < 4 → i ≠ j → v4 = nI i → ¬ v4 = nI j := fun hi hj hne h1 h2 => hne ((nI_ne (by omega) (by omega)).mp (h1.symm.trans h2))
      have out : ∀ {i : Nat}, i < 4 → v4 = nI i → ¬ (v4.toInt < 0 ∨ (4 : Int) ≤ v4.toInt) := fun hi h1 h2 => by
        rw [h1, nI_toInt (by omega)] at h2
        omega
      refine done (fun z => ?_) (fun z => ?_) (fun z => ?_) (fun z => ?_) (fun z => ?_)
      · exact mod (fun τ hR _ => ⟨fun _ => ⟨rfl, hR⟩, fun y => absurd y (bad (by omega) (by omega) (by decide) z), fun y => absurd y (bad (by omega) (by omega) (by decide) z), fun y => absurd y (bad (by omega) (by omega) (by decide) z), fun y => absurd y (out (by omega) z)⟩)
      · exact mod (fun τ hR _ => ⟨fun y => absurd y (bad (by omega) (by omega) (by decide) z), fun _ => ⟨rfl, hR⟩, fun y => absurd y (bad (by omega) (by omega) (by decide) z), fun y => absurd y (bad (by omega) (by omega) (by decide) z), fun y => absurd y (out (by omega) z)⟩)
      · refine sp_bitCountM (by omega) ?_
        rw [ex]
        refine sp_bitCountM (by omega) ?_
        refine kj1_n ?_
        exact mod (fun τ hR _ => ⟨fun y => absurd y (bad (by omega) (by omega) (by decide) z), fun y => absurd y (bad (by omega) (by omega) (by decide) z), fun _ => ⟨rfl, hR⟩, fun y => absurd y (bad (by omega) (by omega) (by decide) z), fun y => absurd y (out (by omega) z)⟩)
      · refine ⟨vp_lt (by omega) (by omega), ?_⟩
        rw [rd_nI (by omega), rd_nI (by omega), K.2 o (by omega), K.2 w (by omega), mk_and, mk_and]
        refine sp_bitCountM (by omega) ⟨vp_lt (by omega) (by omega), ?_⟩
        refine sp_bitCountM (by omega) ?_
        refine sp_compare ?_
        exact mod (fun τ hR _ => ⟨fun y => absurd y (bad (by omega) (by omega) (by decide) z), fun y => absurd y (bad (by omega) (by omega) (by decide) z), fun y => absurd y (bad (by omega) (by omega) (by decide) z), fun _ => ⟨rfl, hR⟩, fun y => absurd y (out (by omega) z)⟩)
      · refine mod (fun τ hR _ => ⟨?_, ?_, ?_, ?_, fun _ => ⟨rfl, hR⟩⟩)
        all_goals exact fun y => absurd z (out (by omega) y)
    · unfold f_X11_chain
      refine sm_isChain M W ?_
      rw [h1, h2]
      exact jn_f rfl ⟨rfl, same⟩
/-- the chain of a line -/
noncomputable def ch (m : Nat) (a b : Nat → Nat) (P : Nat → Bool) (l : Nat) : Nat → Bool := rch m a b P (fun k => decide (k = l))
section
variable {m : Nat} {a b : Nat → Nat} {P : Nat → Bool}
theorem ch_rf {l : Nat} (hl : l < m) (hp : P l = true) : ch m a b P l l = true := rch_start hl hp (by simp)
theorem ch_tr {l k j : Nat} (h1 : ch m a b P l k = true) (h2 : ch m a b P k j = true) : ch m a b P l j = true := by
  refine rch_ind h2 (fun j => ch m a b P l j = true) ?_ ?_
  · intro i hi hp hs
    have : i = k := by simpa using hs
    rw [this]; exact h1
  · intro i j hi hj hp hT hmt
    exact rch_step hT hj hp hmt
theorem ch_sy {l k : Nat} (h1 : ch m a b P l k = true) : ch m a b P k l = true := by
  refine (rch_ind h1 (fun k => P k = true ∧ ch m a b P k l = true) ?_ ?_).2
  · intro i hi hp hs
    have : i = l := by simpa using hs
    rw [this] at hi hp ⊢
    exact ⟨hp, ch_rf hi hp⟩
  · intro i j hi hj hp hT hmt
    exact ⟨hp, ch_tr (rch_step (rch_start hj hp (by simp)) hi hT.1 (by rw [mts_comm]; exact hmt)) hT.2⟩
theorem ch_same {l k : Nat} (h : ch m a b P l k = true) : ∀ j, ch m a b P l j = ch m a b P k j := by
  intro j
  apply Bool.eq_iff_iff.mpr
  exact ⟨fun z => ch_tr (ch_sy h) z, fun z => ch_tr h z⟩
/-- lines that lie in the chain of a line before k -/
noncomputable def chD (m : Nat) (a b : Nat → Nat) (P : Nat → Bool) (k j : Nat) : Bool := anyb (fun l => P l && ch m a b P l j) k
/-- the first line of its chain -/
noncomputable def chH (m : Nat) (a b : Nat → Nat) (P : Nat → Bool) (k : Nat) : Bool := P k && !chD m a b P k k
theorem chD_no {k : Nat} (h : chH m a b P k = false) (j : Nat) : chD m a b P (k + 1) j = chD m a b P k j := by
  unfold chD at *
  rw [anyb]
  cases hp : P k with
  | false => simp
  | true =>
    unfold chH chD at h
    rw [hp, Bool.true_and, Bool.not_eq_false'] at h
    obtain ⟨l, hl, h2⟩ := anyb_iff.mp h
    rw [Bool.and_eq_true] at h2
    rw [← ch_same h2.2 j, Bool.true_and]
    cases hc : ch m a b P l j with
    | false => rw [Bool.or_false]
    | true => rw [Bool.or_true]; exact (anyb_iff.mpr ⟨l, hl, by rw [h2.1, hc]; rfl⟩).symm
theorem chD_yes {k : Nat} (h : chH m a b P k = true) (j : Nat) : chD m a b P (k + 1) j = (chD m a b P k j || ch m a b P k j) := by
  unfold chH at h
  rw [Bool.and_eq_true] at h
  unfold chD
  rw [anyb, h.1, Bool.true_and]
end
section
variable {n m : Nat} {a b : Nat → Nat} {c : Nat → Int32} {σ : kk_St}
theorem sc_countChains (N : RN n m a b σ) (K : RK m c σ) (hm : m ≤ 20) {o w : Nat} (ho : o < 9) (hw : w < 9) {Q : Int32 → Prop} (h : Q (nI (fb_ct (chH m a b (fun k => decide (c k = nI o) || decide (c k = nI w))) m))) : f_X2_countChains (nI o) (nI w) σ Q := by
  unfold f_X2_countChains
  refine ⟨vp_lt (by omega) (by omega), vp_lt (by omega) (by omega), ?_⟩
  intro x ex
  rw [rd_nI (by omega), rd_nI (by omega), K.2 o ho, K.2 w hw, mk_or] at ex
  generalize hP : (fun k => decide (c k = nI o) || decide (c k = nI w)) = P at *
  refine lf_3_2 m (by omega) (fun k r t => r = mk (fun j => P j && !chD m a b P k j) m ∧ t = nI (fb_ct (chH m a b P) k)) (k0 := 0) (by omega) ⟨?_, rfl⟩ ?_ ?_
  · rw [ex]
    exact mk_cong (fun k _ => by simp [chD, anyb])
  · rintro rec k r t hk ⟨rfl, rfl⟩ hrec
    refine br_f (by rw [N.2.1]; exact nI_ge hk (by omega)) ?_
    dsimp only [kk_j2]
    have e1 : bt (mk (fun j => P j && !chD m a b P k j) m) k = chH m a b P k := by
      rw [mk_bt _ _ (by omega)]; simp [hk, chH]
    refine ⟨fun z => ?_, fun z => ?_⟩
    · have z := (z_bit0 _ (by omega)).mp z
      rw [e1] at z
      refine hrec _ _ ⟨mk_cong (fun j _ => by rw [chD_no z]), ?_⟩
      rw [fb_ct_succ, z]; rfl
    · have z : chH m a b P k = true := by
        cases hz : chH m a b P k with
        | true => rfl
        | false => exact absurd ((z_bit0 _ (by omega)).mpr (by rw [e1]; exact hz)) z
      rw [mk_one hk (by omega), ex]
      refine sc_joined N hm ?_
      intro r' er
      rw [mk_andn] at er
      refine hrec _ _ ⟨?_, ?_⟩
      · rw [er]
        refine mk_cong (fun j _ => ?_)
        rw [chD_yes z]
        show ((P j && !chD m a b P k j) && !ch m a b P k j) = _
        cases P j <;> cases chD m a b P k j <;> cases ch m a b P k j <;> rfl
      · rw [fb_ct_succ, z, nI_1]; rfl
  · rintro rec r t ⟨rfl, rfl⟩
    exact br_t (by rw [N.2.1]; exact nI_le (Nat.le_refl _) (by omega)) h
end
theorem q_chains : pr_chains Rel := by
  rintro σ1 σ2 ⟨n, m, a, b, c, kp, ls, kf, gf, W, P, M, N, K, Z⟩ v1 v2
  have hm := W.2.2.1
  have hn := W.2.1
  have hD := Dg_le8 W
  have same : Rel σ1 σ2 := ⟨n, m, a, b, c, kp, ls, kf, gf, W, P, M, N, K, Z⟩
  unfold f_X10_chains
  refine sc_areUnlike N W ?_
  dsimp only [kk_j1]
  refine bI_zn (fun h2 => ?_) (fun h2 => ?_)
  · unfold f_X11_chains
    refine sm_areColours M W ?_
    rw [h2]
    exact jn_f rfl ⟨rfl, same⟩
  · have h2' := h2
    rw [Bool.and_eq_true, Bool.and_eq_true] at h2'
    obtain ⟨e1, e2, e3⟩ := h2'
    obtain ⟨o, ho, rfl⟩ := isIx_ex e1
    obtain ⟨w, hw, rfl⟩ := isIx_ex e2
    refine sc_countChains N K hm (by omega) (by omega) ?_
    unfold f_X11_chains
    refine sm_areColours M W ?_
    rw [h2]
    refine jn_t (by decide) ?_
    generalize hP : (fun k => decide (c k = nI o) || decide (c k = nI w)) = PP at *
    refine lf_4_2 m (by omega) (fun k x t τ => x = mk (chD m a b PP k) m ∧ t = nI (fb_ct (chH m a b PP) k) ∧ frF [] [9] σ2 τ) (k0 := 0) (by omega) ⟨?_, rfl, frF_rf⟩ ?_ ?_
    · exact (mk_0 m).symm
    · rintro rec k x t τ hk ⟨rfl, rfl, F⟩ hrec
      have M2 := RM_fr M F (by simp) (by simp)
      have hw' := W.2.2.2.1 k hk
      refine br_f (by rw [M2.2.1]; exact nI_ge hk (by omega)) ?_
      refine sp_hasM hk (by omega) ?_
      rw [bI_ite]
      dsimp only [kk_j3, kk_j0]
      have pk : PP k = (decide (c k = nI o) || decide (c k = nI w)) := by rw [← hP]
      have no : chH m a b PP k = false → rec (mk (chD m a b PP k) m) (nI (fb_ct (chH m a b PP) k)) (nI k + 1) τ := by
        intro z
        refine hrec _ _ _ ⟨mk_cong (fun j _ => (chD_no z j).symm), ?_, F⟩
        rw [fb_ct_succ, z]; rfl
      refine bI_nz (fun z => no (by unfold chH; rw [z]; simp)) (fun z => ⟨vp_lt (by omega) (by omega), ?_⟩)
      have yes : PP k = true → vp_in (nI k) 20 ∧ f_X11_chainIn 3 20 (kk_rd τ 1 (nI k)) (nI o) (nI w) τ (fun r_13 σ_14 => rec (mk (chD m a b PP k) m ||| r_13) (nI (fb_ct (chH m a b PP) k) + 1) (nI k + 1) σ_14) := by
        intro hp
        refine ⟨vp_lt (by omega) (by omega), ?_⟩
        rw [rd_nI (by omega), M2.2.2.1 k hk]
        refine sm_chainIn M2 W (by decide) M2.2.2.2.2 (by omega) (fun τ' F2 _ => ?_)
        rw [hP]
        have hH : chH m a b PP k = true := by unfold chH; rw [z, hp]; rfl
        refine hrec _ _ _ ⟨?_, ?_, frF_tr F F2⟩
        · rw [mk_or]
          refine mk_cong (fun j hj => ?_)
          rw [chD_yes hH, ← rch_post hk hp (inc_iff.mpr (Or.inl rfl)) j hj]
          rfl
        · rw [fb_ct_succ, hH, nI_1]; rfl
      rw [rd_nI (by omega), M2.2.2.2.2 k hk]
      by_cases h1 : c k = nI o
      · exact br_t h1 (yes (by rw [pk, decide_eq_true h1]; rfl))
      · refine br_f h1 ⟨vp_lt (by omega) (by omega), ?_⟩
        by_cases h3 : c k = nI w
        · exact br_t h3 (yes (by rw [pk, decide_eq_true h3, Bool.or_true]))
        · exact br_f h3 (no (by unfold chH; rw [pk, decide_eq_false h1, decide_eq_false h3]; rfl))
    · rintro rec x t τ ⟨rfl, rfl, F⟩
      have M2 := RM_fr M F (by simp) (by simp)
      refine br_t (by rw [M2.2.1]; exact nI_le (Nat.le_refl _) (by omega)) ⟨rfl, ?_⟩
      exact ⟨n, m, a, b, c, kp, ls, kf, gf, W, P, M2, N, K, Rest_fr Z (frL_rf (L := [])) F (by simp) (by simp) (by simp)⟩
