/-! the class's growing -/
section
variable {n m : Nat} {a b : Nat → Nat} {c : Nat → Int32} {σ : kk_St} {k0 : Nat}
theorem sc_raise (N : RN n m a b σ) (K : RK m c σ) (W : Wf n m a b) (P : Pr n m a b c) (hk0 : k0 < m) (hc0 : c k0 = -1) {s r d B : Nat} {c' : Nat → Int32} {w : Nat} (G : GW n m a b c (a k0) k0 s r d B c' w) {Q : kk_St → Prop}
    (h : ∀ τ, frL [3, 18, 16, 17, 19, 4] σ τ → RK m (upd (shC (fLn m a b c (a k0) k0) c' w) (fLn m a b c (a k0) k0 w) (nI d)) τ → τ.1 19 0 = nI r → τ.1 19 1 = nI d → τ.1 19 2 = nI s → τ.1 19 3 = nI w → τ.1 19 4 = nI B → τ.1 4 4 = 1 → Q τ) : f_X5_raise (nI k0) σ Q := by
  have hm := W.2.2.1
  have hn := W.2.1
  have hD := Dg_le8 W
  have hw0 := W.2.2.2.1 k0 hk0
  have hi0 : inc a b k0 (a k0) = true := inc_iff.mpr (Or.inl rfl)
  obtain ⟨u1, u2, u3, H, u5⟩ := GW_use W P hk0 hi0 hc0 G
  obtain ⟨hs, hs8, ⟨r1, r2, r3⟩, ⟨d1, d2, d3⟩, hc, hw, hp, hf⟩ := G
  obtain ⟨y1, y2, y3⟩ := far_ok W hk0 hi0
  have hs1 := hs.1
  have inv := fun i (hi : i < s) => fan_inv (c := c) W (show a k0 < n by omega) y1 y2 i (fun j' hj' => hs.2.1 j' (by omega))
  unfold f_X5_raise
  refine ⟨vp_lt (by omega) (by omega), ?_⟩
  rw [rd_nI (by omega), N.2.2.2.1 k0 hk0]
  refine sc_lay N K W P hk0 hi0 (fun τ s' F hs' _ e3 e18 => ?_)
  have hss := Fsz_one hs' hs
  subst hss
  have N1 := RN_fr N F (by simp)
  have K1 := RK_fr K F (by simp)
  refine sc_leastFreeAt N1 K1 W (by omega) r1 r2 r3 ?_
  have es : τ.1 3 3 - 1 = nI (s' - 1) := by rw [e3, show (1 : Int32) = nI 1 from rfl, z_sub hs1]
  rw [es]
  refine ⟨vp_lt (by omega) (by omega), ?_⟩
  rw [rd_nI (by omega), e18 (s' - 1) (by omega)]
  have il := inv (s' - 1) (by omega)
  refine sc_leastFreeAt N1 K1 W (by omega) d1 d2 d3 ?_
  refine sc_isFreeAt N1 K1 W (by omega) d1 ?_
  have fin : ∀ (v5 : Int32) (σ6 : kk_St), v5 = nI B → RK m c' σ6 → frL [16, 17] τ σ6 → f_X4_placeLacking (nI (a k0)) (nI d) σ6 (fun r_8 => kk_j1 (fun σ_9 => vp_in (0 : Int32) 5 ∧ ∀ σ_11 : kk_St, σ_11 = kk_wr σ_9 19 (Int32.toNatClampNeg (0 : Int32)) (nI r) → vp_in (1 : Int32) 5 ∧ ∀ σ_12 : kk_St, σ_12 = kk_wr σ_11 19 (Int32.toNatClampNeg (1 : Int32)) (nI d) → vp_in (2 : Int32) 5 ∧ ∀ σ_13 : kk_St, σ_13 = kk_wr σ_12 19 (Int32.toNatClampNeg (2 : Int32)) (σ_12.1 3 3) → vp_in (3 : Int32) 5 ∧ ∀ σ_14 : kk_St, σ_14 = kk_wr σ_13 19 (Int32.toNatClampNeg (3 : Int32)) r_8 → vp_in (4 : Int32) 5 ∧ ∀ σ_15 : kk_St, σ_15 = kk_wr σ_14 19 (Int32.toNatClampNeg (4 : Int32)) v5 → ∀ σ_16 : kk_St, σ_16 = kk_wr σ_15 4 4 (1 : Int32) → Q σ_16) (fun J_10 => (r_8 = (-1 : Int32) → J_10 σ6) ∧ (¬ r_8 = (-1 : Int32) → f_X4_shift (nI (a k0)) r_8 (nI d) σ6 (fun σ_17 => J_10 σ_17)))) := by
    intro v5 σ6 ev K6 F6
    have N6 := RN_fr N1 F6 (by simp)
    have e36 : σ6.1 3 3 = nI s' := by rw [F6.1 3 (by simp)]; exact e3
    have e186 : ∀ j, j < s' → σ6.1 18 j = nI (fsT m a b c (a k0) (far a b (a k0) k0) j).1 := fun j hj => by rw [F6.1 18 (by simp)]; exact e18 j hj
    refine sc_placeLacking N6 K6 W u1 (by omega) hk0 hi0 hs hs8 e36 e186 d1 hw hp hf ?_
    dsimp only [kk_j1]
    refine br_f (nI_ne_m1 (by omega)) ?_
    refine sc_shift N6 K6 W u1 (by omega) H (fun i hi => by have := (inv i hi).2.2.1; omega) hs8 (fun i hi => fLn_at W hk0 hi0 hs hi) e186 hw u2 (fun i hi => hp.1 i hi) d1 (fun σ7 K7 F7 => ?_)
    refine ⟨vp_lt (k := 0) (by omega) (by omega), fun σa ea => ⟨vp_lt (k := 1) (by omega) (by omega), fun σb eb => ⟨vp_lt (k := 2) (by omega) (by omega), fun σc' ec => ⟨vp_lt (k := 3) (by omega) (by omega), fun σd ed => ⟨vp_lt (k := 4) (by omega) (by omega), fun σe ee σf ef => ?_⟩⟩⟩⟩⟩
    rw [show Int32.toNatClampNeg (0 : Int32) = 0 from rfl] at ea
    rw [show Int32.toNatClampNeg (1 : Int32) = 1 from rfl] at eb
    rw [show Int32.toNatClampNeg (2 : Int32) = 2 from rfl] at ec
    rw [show Int32.toNatClampNeg (3 : Int32) = 3 from rfl] at ed
    rw [show Int32.toNatClampNeg (4 : Int32) = 4 from rfl] at ee
    have e33 : σb.1 3 3 = nI s' := by rw [eb, wr_ne _ _ _ (by decide), ea, wr_ne _ _ _ (by decide), F7.1 3 (by simp)]; exact e36
    have Ff : frL [19, 4] σ7 σf := by
      rw [ef, ee, ed, ec, eb, ea]
      exact frL_tr (frL_wr (by simp)) (frL_tr (frL_wr (by simp)) (frL_tr (frL_wr (by simp)) (frL_tr (frL_wr (by simp)) (frL_tr (frL_wr (by simp)) (frL_wr (by simp))))))
    have FF : frL [3, 18, 16, 17, 19, 4] σ σf := frL_tr (frL_mono F (by simp)) (frL_tr (frL_mono F6 (by simp)) (frL_tr (frL_mono F7 (by simp)) (frL_mono Ff (by simp))))
    have g19 : σf.1 19 = upd (upd (upd (upd (upd (σ7.1 19) 0 (nI r)) 1 (nI d)) 2 (nI s')) 3 (nI w)) 4 v5 := by
      rw [ef, wr_ne _ _ _ (by decide), ee, wr_at, ed, wr_at, ec, wr_at, e33, eb, wr_at, ea, wr_at]
    refine h σf FF (RK_fr K7 Ff (by simp)) ?_ ?_ ?_ ?_ ?_ ?_
    · rw [g19, upd_ne _ _ (by decide), upd_ne _ _ (by decide), upd_ne _ _ (by decide), upd_ne _ _ (by decide), upd_at]
    · rw [g19, upd_ne _ _ (by decide), upd_ne _ _ (by decide), upd_ne _ _ (by decide), upd_at]
    · rw [g19, upd_ne _ _ (by decide), upd_ne _ _ (by decide), upd_at]
    · rw [g19, upd_ne _ _ (by decide), upd_at]
    · rw [g19, upd_at]; exact ev
    · rw [ef, wr_at, upd_at]
  dsimp only [kk_j2]
  rcases hc with ⟨h1, hcc, hB⟩ | ⟨h1, hcc, hB⟩
  · rw [h1]
    refine jn_t (by decide) ?_
    exact fin _ _ (by rw [hB]; rfl) (by rw [hcc]; exact K1) frL_rf
  · rw [h1]
    refine jn_f rfl ?_
    have hrd : r ≠ d := fun z => by rw [z, h1] at r2; cases r2
    refine sc_chainOf N1 K1 hm (by omega) (by omega) (by omega) ?_
    refine sc_flip N1 K1 hm (by omega) (by omega) hrd (fun k _ hk => pool_or (rch_pool hk)) (fun σ6 K6 F6 => ?_)
    refine sp_bitCountM (by omega) ?_
    exact fin _ _ (by rw [hB]; rfl) (by rw [hcc]; exact K6) F6
end
