/-! pair: calmer -/
theorem flp_flp {c : Nat → Int32} {o w : Nat} (how : o ≠ w) (ho : o < 9) (hw : w < 9) (k : Nat) : flp (flp c (plw c o w) o w) (plw (flp c (plw c o w) o w) o w) o w k = c k := by
  have hne : ¬ nI o = nI w := fun z => how ((nI_ne (by omega) (by omega)).mp z)
  have hne' : ¬ nI w = nI o := fun z => hne z.symm
  unfold flp plw
  by_cases h1 : c k = nI o
  · simp [h1, hne']
  · by_cases h2 : c k = nI w
    · simp [h2, hne']
    · simp [h1, h2]
theorem plw_flp {c : Nat → Int32} {o w : Nat} (how : o ≠ w) (ho : o < 9) (hw : w < 9) (k : Nat) : plw (flp c (plw c o w) o w) o w k = plw c o w k := by
  have hne : ¬ nI o = nI w := fun z => how ((nI_ne (by omega) (by omega)).mp z)
  have hne' : ¬ nI w = nI o := fun z => hne z.symm
  unfold flp plw
  by_cases h1 : c k = nI o
  · simp [h1]
  · by_cases h2 : c k = nI w
    · simp [h2, hne']
    · simp [h1, h2]
theorem usd_flp {m : Nat} {a b : Nat → Nat} {c : Nat → Int32} {o w : Nat} (how : o ≠ w) (ho : o < 9) (hw : w < 9) {p q : Nat} (hq : q < 9) : usd m a b (flp c (plw c o w) o w) p (nI q) = usd m a b c p (nI (swp o w q)) := by
  unfold usd
  refine anyb_cong (fun k _ => ?_)
  congr 1
  have hne : ∀ {x y : Nat}, x < 9 → y < 9 → x ≠ y → ¬ nI x = nI y := fun hx hy h z => h ((nI_ne (by omega) (by omega)).mp z)
  unfold flp plw swp
  by_cases q1 : q = o
  · subst q1
    rw [if_pos rfl]
    by_cases h1 : c k = nI q
    · simp [h1, hne hw ho (Ne.symm how), hne ho hw how]
    · by_cases h2 : c k = nI w
      · simp [h2, hne hw ho (Ne.symm how)]
      · simp [h1, h2]
  · rw [if_neg q1]
    by_cases q2 : q = w
    · subst q2
      rw [if_pos rfl]
      by_cases h1 : c k = nI o
      · simp [h1]
      · by_cases h2 : c k = nI q
        · simp [h2, hne hw ho (Ne.symm how), hne ho hw how]
        · simp [h1, h2]
    · rw [if_neg q2]
      by_cases h1 : c k = nI o
      · simp [h1, hne hw hq (Ne.symm q2), hne ho hq (Ne.symm q1)]
      · by_cases h2 : c k = nI w
        · simp [h2, hne hw ho (Ne.symm how), hne hw hq (Ne.symm q2), hne ho hq (Ne.symm q1)]
        · simp [h1, h2]
abbrev CT := Nat × Nat × Nat
def cstp (f : Nat → Nat → Nat) (B i j : Nat) (t : CT) : CT := if t.1 < B - f i j then (B - f i j, i, j) else t
def crow (f : Nat → Nat → Nat) (B D i : Nat) (t : CT) : CT := itl (fun j => cstp f B i j) (i + 1) (D + 1) t
def call (f : Nat → Nat → Nat) (B D k : Nat) : CT := itl (crow f B D) 0 k (0, 0, 0)
theorem itl_inv {T : Type} {R : T → Prop} {f : Nat → T → T} {lo : Nat} (hf : ∀ j t, R t → R (f j t)) : ∀ {k : Nat} {t : T}, R t → R (itl f lo k t)
  | 0, _, h => h
  | k + 1, t, h => by
    rw [itl]
    by_cases hlo : lo ≤ k
    · rw [if_pos hlo]; exact hf k _ (itl_inv hf h)
    · rw [if_neg hlo]; exact itl_inv hf h
theorem cstp_le {f : Nat → Nat → Nat} {B i j : Nat} {t : CT} (h : t.1 ≤ B) : (cstp f B i j t).1 ≤ B := by
  unfold cstp
  split
  · show B - f i j ≤ B
    omega
  · exact h
theorem crow_le {f : Nat → Nat → Nat} {B i lo k : Nat} {t : CT} (h : t.1 ≤ B) : (itl (fun j => cstp f B i j) lo k t).1 ≤ B := itl_inv (R := fun t : CT => t.1 ≤ B) (fun _ _ h => cstp_le h) h
theorem call_le {f : Nat → Nat → Nat} {B D k : Nat} : (call f B D k).1 ≤ B := itl_inv (R := fun t : CT => t.1 ≤ B) (fun _ _ h => crow_le h) (Nat.zero_le _)
section
variable {n m : Nat} {a b : Nat → Nat} {c : Nat → Int32} {σ : kk_St}
theorem sm_calmer (M : RM n m a b c σ) (W : Wf n m a b) (P : Pr n m a b c) {v : Nat} (hv : v < 3) {Q : Int32 → kk_St → Prop}
    (h : ∀ τ t, t = call (fun i j => idA n m a b c i j) (idA n m a b c 0 0) (Dg n m a b) (Dg n m a b + 1) → frF [3] [] σ τ → RM n m a b c τ → Q (if t.1 = 0 then -2 else if v = 0 then nI t.1 else if v = 1 then nI t.2.1 else nI t.2.2) τ) : f_X11_calmer (nI v) σ Q := by
  have hm := W.2.2.1
  have hn := W.2.1
  have hD := Dg_le8 W
  have hB := idA_le (m := m) (a := a) (b := b) (c := c) (o := 0) (w := 0) hn
  have h9 := Pr9 W P
  unfold f_X11_calmer
  refine sp_in ?_
  rw [if_pos ⟨nI_le (a := 0) (by omega) (by omega), nI_le (b := 2) (by omega) (by omega)⟩]
  refine jn_t (by decide) ?_
  refine sm_idleAll M W h9 ?_
  generalize hBe : idA n m a b c 0 0 = B at *
  generalize hfe : (fun i j => idA n m a b c i j) = f at *
  generalize hDe : Dg n m a b = D at *
  have hf : ∀ i j, f i j = idA n m a b c i j := fun i j => by rw [← hfe]
  let J : CT → Int32 → Int32 → Int32 → kk_St → Prop := fun t x3 x4 x5 τ => x3 = nI (B - t.1) ∧ (t.1 = 0 → x4 = -1) ∧ (0 < t.1 → x4 = nI t.2.1 ∧ x5 = nI t.2.2 ∧ t.2.1 < 9) ∧ frF [3] [] σ τ ∧ RM n m a b c τ
  refine lf_5_3 (D + 1) (by omega) (fun k x3 x4 x5 τ => J (call f B D k) x3 x4 x5 τ) (k0 := 0) (by omega) ⟨rfl, fun _ => rfl, fun h => absurd h (Nat.lt_irrefl _), frF_rf, M⟩ ?_ ?_
  · rintro rec i x3 x4 x5 τ hi ⟨e3, e4, e5, F, M2⟩ hrec
    refine sm_degree M2 W ?_
    rw [hDe]
    refine br_f (nI_nlt (by omega) (by omega)) ?_
    rw [nI_1]
    refine lf_5_3 (D + 1) (by omega) (fun k x3 x4 x5 τ => i + 1 ≤ k ∧ J (itl (fun j => cstp f B i j) (i + 1) k (call f B D i)) x3 x4 x5 τ) (k0 := i + 1) (by omega) (by rw [itl_lo _ _ _ _ (Nat.le_refl _)]; exact ⟨Nat.le_refl _, e3, e4, e5, F, M2⟩) ?_ ?_
    · rintro rec2 j x3 x4 x5 τ' hj ⟨hij, e3, e4, e5, F', M3⟩ hrec2
      refine sm_degree M3 W ?_
      rw [hDe]
      refine br_f (nI_nlt (by omega) (by omega)) ?_
      have step := itl_s (fun j => cstp f B i j) (lo := i + 1) (call f B D i) hij
      rw [step] at hrec2
      have tB : (itl (fun j => cstp f B i j) (i + 1) j (call f B D i)).1 ≤ B := crow_le call_le
      generalize itl (fun j => cstp f B i j) (i + 1) j (call f B D i) = t at *
      have hijn : i ≠ j := by omega
      refine sm_swaps M3 hm (by omega) (by omega) (fun τ1 M4 F1 => ?_)
      have hP' : Pr n m a b (flp c (plw c i j) i j) := by
        refine Pr_flp P (by omega) (by omega) hijn (by omega) (fun k _ hk => pool_or hk) (fun k l _ _ _ hl _ => ?_)
        unfold plw
        rcases hl with hl | hl <;> simp [hl]
      refine sm_idleAll M4 W (Pr9 W hP') ?_
      refine sm_swaps M4 hm (by omega) (by omega) (fun τ2 M5 F2 => ?_)
      have M6 : RM n m a b c τ2 := ⟨M5.1, M5.2.1, M5.2.2.1, M5.2.2.2.1, fun k hk => (M5.2.2.2.2 k hk).trans (flp_flp hijn (by omega) (by omega) k)⟩
      have FF : frF [3] [] σ τ2 := frF_tr F' (frF_L (frL_tr F1 F2) (by simp))
      have ct : fb_ct (plw (flp c (plw c i j) i j) i j) m = fb_ct (plw c i j) m := fb_ct_cong (fun k _ => plw_flp hijn (by omega) (by omega) k)
      have ei : idA n m a b (flp c (plw c i j) i j) 0 0 = f i j := by
        rw [hf]
        unfold idA
        refine sumN_cong (fun p _ => idl_cong (fun q hq => ?_))
        rw [swp_0, usd_flp hijn (by omega) (by omega) hq]
      have hfl : f i j ≤ 81 := by rw [hf]; exact idA_le hn
      dsimp only [kk_j3]
      refine jn_f ?_ ?_
      · show nI (fb_ct (plw c i j) m) - nI (fb_ct (plw (flp c (plw c i j) i j) i j) m) = 0
        rw [ct, z_sub (Nat.le_refl _), Nat.sub_self]; rfl
      · show (nI (idA n m a b (flp c (plw c i j) i j) 0 0) < x3 → rec2 (nI (idA n m a b (flp c (plw c i j) i j) 0 0)) (nI i) (nI j) (nI j + 1) τ2) ∧ (¬ nI (idA n m a b (flp c (plw c i j) i j) 0 0) < x3 → rec2 x3 x4 x5 (nI j + 1) τ2)
        rw [ei, e3]
        by_cases hlt : t.1 < B - f i j
        · refine br_t (nI_lt (by omega) (by omega)) ?_
          refine hrec2 _ _ _ _ ⟨by omega, ?_⟩
          unfold cstp
          rw [if_pos hlt]
          refine ⟨?_, fun z => ?_, fun _ => ⟨rfl, rfl, by show i < 9; omega⟩, FF, M6⟩
          · show nI (f i j) = nI (B - (B - f i j))
            congr 1; omega
          · have z : B - f i j = 0 := z
            omega
        · refine br_f (nI_nlt (by omega) (by omega)) ?_
          refine hrec2 _ _ _ _ ⟨by omega, ?_⟩
          unfold cstp
          rw [if_neg hlt]
          exact ⟨rfl, e4, e5, FF, M6⟩
    · rintro rec2 x3 x4 x5 τ' ⟨_, e3, e4, e5, F', M3⟩
      refine sm_degree M3 W ?_
      rw [hDe]
      refine br_t (nI_lt (by omega) (by omega)) ?_
      rw [← nI_1]
      refine hrec _ _ _ _ ?_
      unfold call
      rw [itl_s _ _ (Nat.zero_le i)]
      exact ⟨e3, e4, e5, F', M3⟩
  · rintro rec x3 x4 x5 τ ⟨e3, e4, e5, F, M2⟩
    refine sm_degree M2 W ?_
    rw [hDe]
    refine br_t (nI_lt (by omega) (by omega)) ?_
    have h := h τ _ rfl F M2
    have tB : (call f B D (D + 1)).1 ≤ B := call_le
    generalize call f B D (D + 1) = t at *
    dsimp only [kk_j1]
    have hz : ∀ x, x < 4 → (nI v = nI x ↔ v = x) := fun x hx => nI_ne (by omega) (by omega)
    have h0 : x4 = -1 ↔ t.1 = 0 := by
      constructor
      · intro z
        by_cases y : t.1 = 0
        · exact y
        · have := e5 (by omega)
          rw [this.1] at z
          exact absurd z (nI_ne_m1 (by omega))
      · exact e4
    refine ⟨fun z => ⟨fun y => ⟨fun y1 => ?_, fun y1 => ?_⟩, fun y => ?_⟩, fun z => ?_⟩
    · have z : ¬ t.1 = 0 := fun q => z (h0.mpr q)
      rw [if_neg z, if_neg (fun q => y ((hz 0 (by omega)).mpr q)), if_neg (fun q => y1 ((hz 1 (by omega)).mpr q)), ← (e5 (by omega)).2.1] at h
      exact h
    · have z : ¬ t.1 = 0 := fun q => z (h0.mpr q)
      rw [if_neg z, if_neg (fun q => y ((hz 0 (by omega)).mpr q)), if_pos ((hz 1 (by omega)).mp y1), ← (e5 (by omega)).1] at h
      exact h
    · have z : ¬ t.1 = 0 := fun q => z (h0.mpr q)
      rw [if_neg z, if_pos ((hz 0 (by omega)).mp y)] at h
      rw [e3, z_sub (by omega), show B - (B - t.1) = t.1 by omega]
      exact h
    · rw [if_pos (h0.mp z)] at h
      exact h
end
section
variable {n m : Nat} {a b : Nat → Nat} {c : Nat → Int32} {σ : kk_St}
theorem sub_le {x y z : Nat} (hx : x ≤ 81) (hy : y ≤ 81) (hz : z ≤ 81) : nI x - nI y ≤ nI z ↔ x - y ≤ z := by
  have hs : (nI x - nI y : Int32).toInt = (x : Int) - (y : Int) := by
    rw [Int32.toInt_sub, nI_toInt (by omega), nI_toInt (by omega)]
    rw [Int.bmod_eq_of_le] <;> omega
  rw [Int32.le_iff_toInt_le, hs, nI_toInt (by omega)]
  omega
theorem sc_look (N : RN n m a b σ) (K : RK m c σ) (W : Wf n m a b) {Q : kk_St → Prop}
    (h : ∀ τ t, t = call (fun i j => idA n m a b c i j) (idA n m a b c 0 0) (Dg n m a b) (Dg n m a b + 1) → frL [6] σ τ → τ.1 6 2 = nI t.1 → (0 < t.1 → τ.1 6 3 = nI t.2.1 ∧ τ.1 6 4 = nI t.2.2) → Q τ) : f_X1_look σ Q := by
  have hm := W.2.2.1
  have hn := W.2.1
  have hD := Dg_le8 W
  have hB := idA_le (m := m) (a := a) (b := b) (c := c) (o := 0) (w := 0) hn
  unfold f_X1_look
  refine sc_idleOfAll (o := 0) (w := 0) N K hn hm (by omega) (by omega) ?_
  intro σ0 e0
  have F0 : frL [6] σ σ0 := by rw [e0]; exact frL_wr (by simp)
  have v0 : σ0.1 6 2 = 0 := by rw [e0, wr_at, upd_at]
  generalize hBe : idA n m a b c 0 0 = B at *
  generalize hfe : (fun i j => idA n m a b c i j) = f at *
  generalize hDe : Dg n m a b = D at *
  have hf : ∀ i j, f i j = idA n m a b c i j := fun i j => by rw [← hfe]
  have col : ∀ {τ : kk_St} {Q : Int32 → Prop}, frL [6] σ τ → Q (nI (D + 1)) → f_X3_colours τ Q := by
    intro τ Q F h
    unfold f_X3_colours
    rw [(RN_fr N F (by simp)).2.2.1, hDe, nI_1]; exact h
  let J : CT → kk_St → Prop := fun t τ => τ.1 6 2 = nI t.1 ∧ (0 < t.1 → τ.1 6 3 = nI t.2.1 ∧ τ.1 6 4 = nI t.2.2) ∧ frL [6] σ τ
  refine lf_2_0 (D + 1) (by omega) (fun k τ => J (call f B D k) τ) (k0 := 0) (by omega) ⟨v0, fun h => absurd h (Nat.lt_irrefl _), F0⟩ ?_ ?_
  · rintro rec i τ hi ⟨e2, e3, F⟩ hrec
    refine col F ?_
    refine br_f (nI_ge hi (by omega)) ?_
    rw [nI_1]
    refine lf_2_0 (D + 1) (by omega) (fun k τ => i + 1 ≤ k ∧ J (itl (fun j => cstp f B i j) (i + 1) k (call f B D i)) τ) (k0 := i + 1) (by omega) (by rw [itl_lo _ _ _ _ (Nat.le_refl _)]; exact ⟨Nat.le_refl _, e2, e3, F⟩) ?_ ?_
    · rintro rec2 j τ' hj ⟨hij, e2, e3, F'⟩ hrec2
      refine col F' ?_
      refine br_f (nI_ge hj (by omega)) ?_
      have step := itl_s (fun j => cstp f B i j) (lo := i + 1) (call f B D i) hij
      rw [step] at hrec2
      have tB : (itl (fun j => cstp f B i j) (i + 1) j (call f B D i)).1 ≤ B := crow_le call_le
      generalize itl (fun j => cstp f B i j) (i + 1) j (call f B D i) = t at *
      refine sc_idleOfAll (RN_fr N F' (by simp)) (RK_fr K F' (by simp)) hn hm (by omega) (by omega) ?_
      rw [← hf, e2]
      have hfl : f i j ≤ 81 := by rw [hf]; exact idA_le hn
      dsimp only [kk_j1]
      by_cases hlt : t.1 < B - f i j
      · refine br_f (fun z => by have := (sub_le (by omega) hfl (by omega)).mp z; omega) ?_
        intro σa ea σb eb σc ec
        rw [z_sub (by omega)] at ea
        have Fc : frL [6] σ σc := by
          rw [ec, eb, ea]
          exact frL_tr F' (frL_tr (frL_wr (by simp)) (frL_tr (frL_wr (by simp)) (frL_wr (by simp))))
        refine hrec2 _ ⟨by omega, ?_⟩
        unfold cstp
        rw [if_pos hlt]
        refine ⟨?_, fun _ => ⟨?_, ?_⟩, Fc⟩
        · rw [ec, wr_at, upd_ne _ _ (by decide), eb, wr_at, upd_ne _ _ (by decide), ea, wr_at, upd_at]
        · rw [ec, wr_at, upd_ne _ _ (by decide), eb, wr_at, upd_at]
        · rw [ec, wr_at, upd_at]
      · refine br_t ((sub_le (by omega) hfl (by omega)).mpr (by omega)) ?_
        refine hrec2 _ ⟨by omega, ?_⟩
        unfold cstp
        rw [if_neg hlt]
        exact ⟨e2, e3, F'⟩
    · rintro rec2 τ' ⟨_, e2, e3, F'⟩
      refine col F' ?_
      refine br_t (nI_le (Nat.le_refl _) (by omega)) ?_
      rw [← nI_1]
      refine hrec _ ?_
      unfold call
      rw [itl_s _ _ (Nat.zero_le i)]
      exact ⟨e2, e3, F'⟩
  · rintro rec τ ⟨e2, e3, F⟩
    refine col F ?_
    exact br_t (nI_le (Nat.le_refl _) (by omega)) (h τ _ rfl F e2 e3)
end
theorem q_calmer : pr_calmer Rel := by
  rintro σ1 σ2 ⟨n, m, a, b, c, kp, ls, kf, gf, W, P, M, N, K, Z⟩ v1
  have hm := W.2.2.1
  have hn := W.2.1
  have hD := Dg_le8 W
  have same : Rel σ1 σ2 := ⟨n, m, a, b, c, kp, ls, kf, gf, W, P, M, N, K, Z⟩
  have bad : (¬ ((0 : Int32) ≤ v1 ∧ v1 ≤ 2)) → f_X11_calmer v1 σ2 (fun r' σ2' => (-1 : Int32) = r' ∧ Rel σ1 σ2') := by
    intro h
    unfold f_X11_calmer
    refine sp_in ?_
    rw [if_neg h]
    exact jn_f rfl ⟨rfl, same⟩
  unfold f_X10_calmer
  dsimp only [kk_j0]
  refine ⟨fun h => bad (fun z => Int32.not_lt.mpr z.1 h), fun h => ⟨fun h2 => ?_, fun h2 => bad (fun z => h2 z.2)⟩⟩
  obtain ⟨v, hv2, rfl⟩ := nI_of h
  have hv : v < 3 := by
    have := Int32.le_iff_toInt_le.mp h2
    rw [nI_toInt hv2, show (2 : Int32).toInt = 2 from rfl] at this
    omega
  refine sc_look N K W (fun τ1 t et F1 e2 e3 => ?_)
  have tB : t.1 ≤ 81 := by
    rw [et]; exact Nat.le_trans call_le (idA_le hn)
  have mod : ∀ r : Int32, r = (if t.1 = 0 then -2 else if v = 0 then nI t.1 else if v = 1 then nI t.2.1 else nI t.2.2) → f_X11_calmer (nI v) σ2 (fun r' σ2' => r = r' ∧ Rel τ1 σ2') := by
    intro r hr
    refine sm_calmer M W P hv (fun τ t' et' F M2 => ?_)
    rw [← et] at et'
    subst et'
    exact ⟨hr, n, m, a, b, c, kp, ls, kf, gf, W, P, M2, RN_fr N F1 (by simp), RK_fr K F1 (by simp), Rest_fr Z F1 F (by simp) (by simp) (by simp)⟩
  have hz : ∀ x, x < 4 → (nI v = nI x ↔ v = x) := fun x hx => nI_ne (by omega) (by omega)
  by_cases h0 : 0 < t.1
  · refine br_t (by rw [e2]; exact nI_lt h0 (by omega)) ?_
    obtain ⟨e3, e4⟩ := e3 h0
    dsimp only [kk_j1]
    refine ⟨fun y => ⟨fun y1 => mod _ ?_, fun y1 => mod _ ?_⟩, fun y => mod _ ?_⟩
    · rw [if_neg (by omega), if_neg (fun q => y ((hz 0 (by omega)).mpr q)), if_neg (fun q => y1 ((hz 1 (by omega)).mpr q)), e4]
    · rw [if_neg (by omega), if_neg (fun q => y ((hz 0 (by omega)).mpr q)), if_pos ((hz 1 (by omega)).mp y1), e3]
    · rw [if_neg (by omega), if_pos ((hz 0 (by omega)).mp y), e2]
  · refine br_f (by rw [e2]; exact nI_nlt (a := 0) (b := t.1) (by omega) (by omega)) (mod _ ?_)
    rw [if_pos (by omega)]
