/-! the reference's growing -/
section
variable {n m : Nat} {a b : Nat → Nat} {c : Nat → Int32} {σ : kk_St} {k0 : Nat}
theorem sm_grows (M : RM n m a b c σ) (W : Wf n m a b) (P : Pr n m a b c) (hk0 : k0 < m) (hc0 : c k0 = -1) {s r d B : Nat} {c' : Nat → Int32} {w : Nat} (G : GW n m a b c (a k0) k0 s r d B c' w) {Q : Int32 → kk_St → Prop}
    (h : ∀ τ, frF [6, 7, 3] [11, 9, 12] σ τ → RM n m a b (upd (shC (fLn m a b c (a k0) k0) c' w) (fLn m a b c (a k0) k0 w) (nI d)) τ → τ.1 7 0 = nI r → τ.1 7 1 = nI d → τ.1 7 2 = nI s → τ.1 7 3 = nI w → τ.1 7 4 = nI B → τ.1 0 12 = 1 → Q (upd (shC (fLn m a b c (a k0) k0) c' w) (fLn m a b c (a k0) k0 w) (nI d) k0) τ) : f_X11_grows (nI k0) σ Q := by
  have hm := W.2.2.1
  have hn := W.2.1
  have hD := Dg_le8 W
  have hw0 := W.2.2.2.1 k0 hk0
  have hi0 : inc a b k0 (a k0) = true := inc_iff.mpr (Or.inl rfl)
  obtain ⟨u1, u2, u3, H, u5⟩ := GW_use W P hk0 hi0 hc0 G
  obtain ⟨hs, hs8, ⟨r1, r2, r3⟩, ⟨d1, d2, d3⟩, hc, hw, hp, hf⟩ := G
  obtain ⟨y1, y2, y3⟩ := far_ok W hk0 hi0
  have hs1 := hs.1
  have inv := fun i (hi : i < s) => fan_inv (c := c) W (show a k0 < n by omega) y1 y2 i (fun j' hj' => hs.2.1 j' (by omega))
  unfold f_X11_grows
  refine ⟨vp_lt (by omega) (by omega), ?_⟩
  rw [rd_nI (by omega), M.2.2.1 k0 hk0]
  refine sm_laysFan M W P hk0 hi0 (fun τ s' F hs' _ e11 e6 => ?_)
  have hss := Fsz_one hs' hs
  subst hss
  have M1 := RM_fr M F (by simp) (by simp)
  refine sm_leastFreeAt M1 W (by omega) r1 r2 r3 ?_
  have es : τ.1 0 11 - 1 = nI (s' - 1) := by rw [e11, show (1 : Int32) = nI 1 from rfl, z_sub hs1]
  rw [es]
  refine ⟨vp_lt (by omega) (by omega), ?_⟩
  rw [rd_nI (by omega), e6 (s' - 1) (by omega)]
  have il := inv (s' - 1) (by omega)
  refine sm_leastFreeAt M1 W (by omega) d1 d2 d3 ⟨vp_lt (k := 4) (by omega) (by omega), ?_⟩
  intro σ4 e4
  rw [show Int32.toNatClampNeg (4 : Int32) = 4 from rfl] at e4
  have F4 : frF [6, 7] [11] σ σ4 := frF_tr (frF_mono F (by simp) (by simp)) (by rw [e4]; exact frF_c (by simp) (by decide))
  have M4 := RM_fr M F4 (by simp) (by simp)
  have s6 : ∀ j, j < s' → σ4.1 6 j = nI (fsT m a b c (a k0) (far a b (a k0) k0) j).1 := fun j hj => by rw [e4, wr_ne _ _ _ (by decide)]; exact e6 j hj
  have s11 : σ4.1 0 11 = nI s' := by rw [e4, wr_ne _ _ _ (by decide)]; exact e11
  refine sm_isFreeAt M4 W (by omega) ?_
  generalize hL : fLn m a b c (a k0) k0 = L at *
  generalize hY : (fun i => (fsT m a b c (a k0) (far a b (a k0) k0) i).1) = Y at *
  have hYi : ∀ i, (fsT m a b c (a k0) (far a b (a k0) k0) i).1 = Y i := fun i => by rw [← hY]
  have lo : ∀ {τ : kk_St} {e : Nat → Int32} (_ : RM n m a b e τ) {i : Nat} (_ : i < s') {Q : Int32 → Prop}, Q (nI (L i)) → f_X11_lineOf (nI (a k0)) (nI (Y i)) τ Q := by
    intro τ e Me i hi Q hQ
    have ii := inv i hi
    rw [hYi] at ii
    refine sm_lineOf Me W (by omega) (by omega) (Ne.symm ii.2.2.2.1) ?_
    have := fLn_at (c := c) W hk0 hi0 hs hi
    rw [hYi, hL] at this
    rw [this]; exact hQ
  have fin : ∀ σ6 : kk_St, RM n m a b c' σ6 → frF [6, 7, 3] [11, 9] σ σ6 → σ6.1 7 4 = nI B → σ6.1 0 11 = nI s' → (∀ j, j < s' → σ6.1 6 j = nI (Y j)) → ∀ v5 : Int32, v5 = nI w → kk_lp2 (fun (rec_12 : Int32 → kk_St → Prop) (v6_10 : Int32) (σ_11 : kk_St) =>
 ((v5 ≤ v6_10 → (vp_in v5 9 ∧
 (f_X11_lineOf (nI (a k0)) (kk_rd σ_11 6 v5) σ_11 (fun (r_13 : Int32) =>
 (vp_in r_13 20 ∧
 (∀ σ_14 : kk_St, σ_14 = (kk_wr σ_11 3 (Int32.toNatClampNeg r_13) (nI d)) → (vp_in (0 : Int32) 5 ∧
 (∀ σ_15 : kk_St, σ_15 = (kk_wr σ_14 7 (Int32.toNatClampNeg (0 : Int32)) (nI r)) → (vp_in (1 : Int32) 5 ∧
 (∀ σ_16 : kk_St, σ_16 = (kk_wr σ_15 7 (Int32.toNatClampNeg (1 : Int32)) (nI d)) → (vp_in (2 : Int32) 5 ∧
 (∀ σ_17 : kk_St, σ_17 = (kk_wr σ_16 7 (Int32.toNatClampNeg (2 : Int32)) (σ_16.1 0 11)) → (vp_in (3 : Int32) 5 ∧
 (∀ σ_18 : kk_St, σ_18 = (kk_wr σ_17 7 (Int32.toNatClampNeg (3 : Int32)) v5) → (∀ σ_19 : kk_St, σ_19 = (kk_wr σ_18 0 12 (1 : Int32)) → (vp_in (nI k0) 20 ∧
 Q (kk_rd σ_19 3 (nI k0)) σ_19)))))))))))))))) ∧
 (¬ v5 ≤ v6_10 → (vp_in v6_10 9 ∧
 (f_X11_lineOf (nI (a k0)) (kk_rd σ_11 6 v6_10) σ_11 (fun (r_20 : Int32) =>
 (vp_in (v6_10 + (1 : Int32)) 9 ∧
 (f_X11_lineOf (nI (a k0)) (kk_rd σ_11 6 (v6_10 + (1 : Int32))) σ_11 (fun (r_21 : Int32) =>
 (vp_in r_21 20 ∧
 (vp_in r_20 20 ∧
 (∀ σ_22 : kk_St, σ_22 = (kk_wr σ_11 3 (Int32.toNatClampNeg r_20) (kk_rd σ_11 3 r_21)) → rec_12 (v6_10 + (1 : Int32)) σ_22)))))))))))) (0 : Int32) σ6 := by
    rintro σ6 M6 F6 e74 e011 e6' v5 rfl
    refine lf_2_0 w (by omega) (fun i τ => RM n m a b (shR L c' i) τ ∧ frL [3] σ6 τ) (k0 := 0) (by omega) ⟨M6, frL_rf⟩ ?_ ?_
    · rintro rec i τ hi ⟨Mi, Fi⟩ hrec
      have hl1 := (H.1 i (by omega)).1
      have hl2 := (H.1 (i + 1) (by omega)).1
      refine br_f (nI_ge hi (by omega)) ⟨vp_lt (by omega) (by omega), ?_⟩
      rw [nI_1, rd_nI (by omega), rd_nI (by omega), Fi.1 6 (by simp), e6' i (by omega), e6' (i + 1) (by omega)]
      refine lo Mi (by omega) ⟨vp_lt (by omega) (by omega), ?_⟩
      refine lo Mi (by omega) ⟨vp_lt (by omega) (by omega), vp_lt (by omega) (by omega), ?_⟩
      intro τ2 e2
      rw [nI_clamp (by omega), rd_nI (by omega), Mi.2.2.2.2 _ hl2] at e2
      have F2 : frL [3] τ τ2 := by rw [e2]; exact frL_wr (by simp)
      rw [← nI_1]
      refine hrec _ ⟨RM_col Mi (frF_L (F := []) F2 (by simp)) (by simp) (by simp) (fun k hk => ?_), frL_tr Fi F2⟩
      rw [e2, wr_at]
      show upd (τ.1 3) (L i) (shR L c' i (L (i + 1))) k = upd (shR L c' i) (L i) (shR L c' i (L (i + 1))) k
      rw [upd_if, upd_if, Mi.2.2.2.2 k hk]
    · rintro rec τ ⟨Mi, Fi⟩
      have hl1 := (H.1 w hw).1
      refine br_t (nI_le (Nat.le_refl _) (by omega)) ⟨vp_lt (by omega) (by omega), ?_⟩
      rw [rd_nI (by omega), Fi.1 6 (by simp), e6' w hw]
      refine lo Mi hw ⟨vp_lt (by omega) (by omega), ?_⟩
      intro t0 g0
      refine ⟨vp_lt (k := 0) (by omega) (by omega), fun ta ea => ⟨vp_lt (k := 1) (by omega) (by omega), fun tb eb => ⟨vp_lt (k := 2) (by omega) (by omega), fun tc ec => ⟨vp_lt (k := 3) (by omega) (by omega), fun td ed te ee => ⟨vp_lt (by omega) (by omega), ?_⟩⟩⟩⟩⟩
      rw [nI_clamp (by omega)] at g0
      rw [show Int32.toNatClampNeg (0 : Int32) = 0 from rfl] at ea
      rw [show Int32.toNatClampNeg (1 : Int32) = 1 from rfl] at eb
      rw [show Int32.toNatClampNeg (2 : Int32) = 2 from rfl] at ec
      rw [show Int32.toNatClampNeg (3 : Int32) = 3 from rfl] at ed
      have b11 : tb.1 0 11 = nI s' := by rw [eb, wr_ne _ _ _ (by decide), ea, wr_ne _ _ _ (by decide), g0, wr_ne _ _ _ (by decide), Fi.1 0 (by simp)]; exact e011
      have Fe : frF [7, 3] [12] τ te := by
        rw [ee, ed, ec, eb, ea, g0]
        exact frF_tr (frF_c (by simp) (by decide)) (frF_tr (frF_c (by simp) (by decide)) (frF_tr (frF_c (by simp) (by decide)) (frF_tr (frF_c (by simp) (by decide)) (frF_tr (frF_c (by simp) (by decide)) (frF_f (by simp))))))
      have FF : frF [6, 7, 3] [11, 9, 12] σ te := frF_tr (frF_mono F6 (by simp) (by simp)) (frF_tr (frF_mono (frF_L (F := []) Fi (by simp)) (by simp) (by simp)) (frF_mono Fe (by simp) (by simp)))
      have t3 : te.1 3 = upd (τ.1 3) (L w) (nI d) := by rw [ee, wr_ne _ _ _ (by decide), ed, wr_ne _ _ _ (by decide), ec, wr_ne _ _ _ (by decide), eb, wr_ne _ _ _ (by decide), ea, wr_ne _ _ _ (by decide), g0, wr_at]
      have val : ∀ k, k < m → te.1 3 k = upd (shC L c' w) (L w) (nI d) k := fun k hk => by
        rw [t3, ← shR_end H hw, upd_if, upd_if, Mi.2.2.2.2 k hk]
      have t7 : te.1 7 = upd (upd (upd (upd (τ.1 7) 0 (nI r)) 1 (nI d)) 2 (nI s')) 3 (nI w) := by
        rw [ee, wr_ne _ _ _ (by decide), ed, wr_at, ec, wr_at, b11, eb, wr_at, ea, wr_at, g0, wr_ne _ _ _ (by decide)]
      rw [rd_nI (by omega), val k0 hk0]
      refine h te FF (RM_col Mi Fe (by simp) (by simp) val) ?_ ?_ ?_ ?_ ?_ ?_
      · rw [t7, upd_ne _ _ (by decide), upd_ne _ _ (by decide), upd_ne _ _ (by decide), upd_at]
      · rw [t7, upd_ne _ _ (by decide), upd_ne _ _ (by decide), upd_at]
      · rw [t7, upd_ne _ _ (by decide), upd_at]
      · rw [t7, upd_at]
      · rw [t7, upd_ne _ _ (by decide), upd_ne _ _ (by decide), upd_ne _ _ (by decide), upd_ne _ _ (by decide), Fi.1 7 (by simp)]; exact e74
      · rw [ee, wr_at, upd_at]
  have plc : ∀ σ6 : kk_St, RM n m a b c' σ6 → (∀ j, j < s' → σ6.1 6 j = nI (Y j)) → ∀ J9 : Int32 → Prop, J9 (nI w) → kk_lp1 (fun (rec_25 : Int32 → Prop) (v5_24 : Int32) =>
 (vp_in v5_24 9 ∧
 (f_X11_isFreeAt (kk_rd σ6 6 v5_24) (nI d) σ6 (fun (r_26 : Int32) =>
 ((¬ r_26 = 0 → J9 v5_24) ∧
 (r_26 = 0 → (vp_in v5_24 9 ∧
 (vp_in (v5_24 + (1 : Int32)) 9 ∧
 (f_X11_lineOf (nI (a k0)) (kk_rd σ6 6 (v5_24 + (1 : Int32))) σ6 (fun (r_27 : Int32) =>
 (vp_in r_27 20 ∧
 (f_X11_isFreeAt (kk_rd σ6 6 v5_24) (kk_rd σ6 3 r_27) σ6 (fun (r_28 : Int32) =>
 ((r_28 = 0 → J9 v5_24) ∧
 (¬ r_28 = 0 → rec_25 (v5_24 + (1 : Int32))))))))))))))))) (0 : Int32) := by
    intro σ6 M6 e6' J9 hJ
    refine kk_lpI1 (fun v => ∃ i, v = nI i ∧ i ≤ w) (fun v => w - v.toNatClampNeg) ?_ ⟨0, rfl, Nat.zero_le _⟩
    rintro rec v ⟨i, rfl, hi⟩ hrec
    have ii := inv i (by omega)
    rw [hYi] at ii
    refine ⟨vp_lt (by omega) (by omega), ?_⟩
    rw [rd_nI (by omega), e6' i (by omega)]
    refine sm_isFreeAt M6 W (by omega) ?_
    refine bI_nz (fun z => ?_) (fun z => ⟨vp_lt (by omega) (by omega), ?_⟩)
    · have e : i = w := by
        by_cases y : i < w
        · have := hf i y
          rw [hYi] at this
          rw [this] at z; cases z
        · omega
      rw [e]; exact hJ
    · have hiw : i < w := by
        apply Nat.lt_of_le_of_ne hi
        intro e
        have := hp.2
        rw [hYi, ← e] at this
        rw [this] at z; cases z
      have hl := (H.1 (i + 1) (by omega)).1
      rw [nI_1]
      refine ⟨vp_lt (by omega) (by omega), ?_⟩
      rw [rd_nI (by omega), e6' (i + 1) (by omega)]
      refine lo M6 (by omega) ⟨vp_lt (by omega) (by omega), ?_⟩
      rw [rd_nI (by omega), M6.2.2.2.2 _ hl]
      refine sm_isFreeAt M6 W (by omega) ?_
      have hpt := (hp.1 i hiw).2
      rw [hYi] at hpt
      have eL : L (i + 1) = fln m a b c (a k0) (far a b (a k0) k0) i := by rw [← hL]; rfl
      rw [eL, hpt]
      refine br_f (by decide) ?_
      exact hrec _ ⟨i + 1, rfl, hiw⟩ (by rw [nI_clamp (by omega), nI_clamp (by omega)]; omega)
  have s6Y : ∀ j, j < s' → σ4.1 6 j = nI (Y j) := fun j hj => by rw [s6 j hj, hYi]
  dsimp only [kk_j1]
  rcases hc with ⟨h1, hcc, hB⟩ | ⟨h1, hcc, hB⟩
  · rw [h1]
    refine jn_t (by decide) ?_
    have M4' : RM n m a b c' σ4 := by rw [hcc]; exact M4
    exact plc σ4 M4' s6Y _ (fin σ4 M4' (frF_mono F4 (by simp) (by simp)) (by rw [e4, wr_at, upd_at, hB]; rfl) s11 s6Y _ rfl)
  · rw [h1]
    refine jn_f rfl ?_
    have hrd : r ≠ d := fun z => by rw [z, h1] at r2; cases r2
    refine sm_chainIn M4 W (by decide) M4.2.2.2.2 (by omega) (fun τ5 F5 _ => ?_)
    have M5 := RM_fr M4 F5 (by simp) (by simp)
    refine sm_flips hm (by omega) (by omega) M5.2.2.2.2 (fun k _ hk => pool_or (rch_pool hk)) (fun τ6 f1 f2 F6 => ?_)
    refine sp_bitsOfM (by omega) ⟨vp_lt (k := 4) (by omega) (by omega), ?_⟩
    intro τ7 e7
    rw [show Int32.toNatClampNeg (4 : Int32) = 4 from rfl] at e7
    have F7 : frF [3, 7] [9] σ4 τ7 := frF_tr (frF_mono F5 (by simp) (by simp)) (frF_tr (frF_mono (frF_L (F := []) F6 (by simp)) (by simp) (by simp)) (by rw [e7]; exact frF_c (by simp) (by decide)))
    have M7 : RM n m a b c' τ7 := RM_col M4 F7 (by simp) (by simp) (fun k hk => by rw [e7, wr_ne _ _ _ (by decide), f1 k hk, hcc]; rfl)
    have t6 : ∀ j, j < s' → τ7.1 6 j = nI (Y j) := fun j hj => by rw [F7.1 6 (by simp) (by decide)]; exact s6Y j hj
    exact plc τ7 M7 t6 _ (fin τ7 M7 (frF_tr (frF_mono F4 (by simp) (by simp)) (frF_mono F7 (by simp) (by simp))) (by rw [e7, wr_at, upd_at, hB]; rfl) (by rw [F7.2.1 11 (by simp)]; exact s11) t6 _ rfl)
end
