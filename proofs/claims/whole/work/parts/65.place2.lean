/-! the lines of a fan, and the place found -/
def fLn (m : Nat) (a b : Nat → Nat) (c : Nat → Int32) (x k0 : Nat) : Nat → Nat
  | 0 => k0
  | i + 1 => fln m a b c x (far a b x k0) i
section
variable {n m : Nat} {a b : Nat → Nat} {c c' : Nat → Int32} {σ : kk_St} {x k0 s d : Nat}
theorem fLn_ok (W : Wf n m a b) (hk0 : k0 < m) (hi0 : inc a b k0 x = true) (hs : Fsz m a b c x (far a b x k0) s) : ∀ {i : Nat}, i < s → fLn m a b c x k0 i < m ∧ inc a b (fLn m a b c x k0 i) x = true ∧ far a b x (fLn m a b c x k0 i) = (fsT m a b c x (far a b x k0) i).1
  | 0, _ => ⟨hk0, hi0, rfl⟩
  | i + 1, h => ⟨hs.2.1 i h, (fln_ok (hs.2.1 i h)).1, rfl⟩
/-- the line between the middle and a post of the fan -/
theorem fLn_at (W : Wf n m a b) (hk0 : k0 < m) (hi0 : inc a b k0 x = true) (hs : Fsz m a b c x (far a b x k0) s) {i : Nat} (hi : i < s) : fI (fun k => inc a b k x && inc a b k (fsT m a b c x (far a b x k0) i).1) m = nI (fLn m a b c x k0 i) := by
  obtain ⟨h1, h2, h3⟩ := fLn_ok W hk0 hi0 hs hi
  have fo := far_ok W h1 h2
  refine fI_at h1 ?_ ?_
  · rw [h2, ← h3, fo.2.2]; rfl
  · intro k hk
    cases hc : inc a b k x && inc a b k (fsT m a b c x (far a b x k0) i).1 with
    | false => rfl
    | true =>
      exfalso
      rw [Bool.and_eq_true] at hc
      have hkm : k < m := by omega
      have hw := W.2.2.2.1 k hkm
      have e : far a b x k = (fsT m a b c x (far a b x k0) i).1 := by
        have hne : (fsT m a b c x (far a b x k0) i).1 ≠ x := by rw [← h3]; exact fo.2.1
        unfold far
        rcases inc_iff.mp hc.1 with z | z
        · rw [if_pos z]
          rcases inc_iff.mp hc.2 with y | y
          · exact absurd (y.symm.trans z) hne
          · exact y
        · rw [if_neg (by omega)]
          rcases inc_iff.mp hc.2 with y | y
          · exact y
          · exact absurd (y.symm.trans z) hne
      have := far_inj W hkm h1 hc.1 h2 (e.trans h3.symm)
      omega
/-- the class's place: the first post that lacks d -/
theorem sc_placeLacking (N : RN n m a b σ) (K : RK m c' σ) (W : Wf n m a b) (P' : Pr n m a b c') (hx : x < n) (hk0 : k0 < m) (hi0 : inc a b k0 x = true) (hs : Fsz m a b c x (far a b x k0) s) (hs8 : s ≤ 8) (e3 : σ.1 3 3 = nI s) (e18 : ∀ j, j < s → σ.1 18 j = nI (fsT m a b c x (far a b x k0) j).1) (hd : d ≤ Dg n m a b) {w : Nat} (hw : w < s) (hp : Plc m a b c c' x (far a b x k0) d w) (hf : ∀ i, i < w → usd m a b c' (fsT m a b c x (far a b x k0) i).1 (nI d) = true) {Q : Int32 → Prop} (h : Q (nI w)) : f_X4_placeLacking (nI x) (nI d) σ Q := by
  have hm := W.2.2.1
  have hn := W.2.1
  have hD := Dg_le8 W
  obtain ⟨y1, y2, y3⟩ := far_ok W hk0 hi0
  have inv := fun i (hi : i < s) => fan_inv (c := c) W hx y1 y2 i (fun j' hj' => hs.2.1 j' (by omega))
  unfold f_X4_placeLacking
  refine lf_1_0 s (by omega) (fun i => i ≤ w) (k0 := 0) (by omega) (Nat.zero_le _) ?_ ?_
  · intro rec i hi hiw hrec
    refine br_f (by rw [e3]; exact nI_ge hi (by omega)) ?_
    have ii := inv i hi
    have tst : vp_in (nI i) 9 ∧ f_X3_isFreeAt (kk_rd σ 18 (nI i)) (nI d) σ (fun r_4 => (r_4 = 0 → rec (nI i + 1)) ∧ (¬ r_4 = 0 → Q (nI i))) := by
      refine ⟨vp_lt (by omega) (by omega), ?_⟩
      rw [rd_nI (by omega), e18 i hi]
      refine sc_isFreeAt N K W (by omega) hd ?_
      refine bI_zn (fun z => hrec ?_) (fun z => ?_)
      · apply Nat.lt_of_le_of_ne hiw
        intro e
        rw [e, hp.2] at z
        cases z
      · have e : i = w := by
          by_cases y : i < w
          · rw [hf i y] at z; cases z
          · omega
        rw [e]; exact h
    dsimp only [kk_j0]
    refine ⟨fun _ => tst, fun hz => ?_⟩
    obtain ⟨t, rfl⟩ : ∃ t, i = t + 1 := ⟨i - 1, by
      have : ¬ i = 0 := fun q => hz (by rw [q]; exact Int32.le_refl _)
      omega⟩
    have it := inv t (by omega)
    unfold f_X4_follows
    refine ⟨vp_lt (by omega) (by omega), ?_⟩
    rw [rd_nI (by omega), e18 (t + 1) hi]
    refine sc_lineBetween N hm (by omega) (by omega) ?_
    rw [fLn_at W hk0 hi0 hs hi]
    have hl := (fLn_ok W hk0 hi0 hs hi).1
    dsimp only [kk_j0]
    refine br_f (nI_ne_m1 (by omega)) ⟨vp_lt (by omega) (by omega), ?_⟩
    rw [rd_nI (by omega), K.1 _ (by omega), if_pos hl]
    have hpt := hp.1 t (by omega)
    have es : nI (t + 1) - 1 = nI t := by rw [show (1 : Int32) = nI 1 from rfl, z_sub (by omega), Nat.add_sub_cancel]
    refine jn_t hpt.1 ?_
    rw [es]
    refine ⟨vp_lt (by omega) (by omega), vp_lt (by omega) (by omega), ?_⟩
    rw [rd_nI (by omega), e18 t (by omega)]
    rcases P'.1 _ hl with u | ⟨q, hq, u⟩
    · exact absurd u hpt.1
    · rw [u]
      refine sc_isFreeAt N K W (by omega) hq ?_
      have hfree : usd m a b c' (fsT m a b c x (far a b x k0) t).1 (nI q) = false := by
        have := hpt.2
        rw [show c' (fln m a b c x (far a b x k0) t) = nI q from u] at this
        exact this
      rw [hfree]
      rw [rd_nI (by omega), e18 (t + 1) hi] at tst
      exact ⟨Or.inr rfl, jn_t (by decide) tst⟩
  · intro rec hiw
    omega
end
