/-! the end of a shift, and the class's shift -/
section
variable {n m : Nat} {a b : Nat → Nat} {c : Nat → Int32} {σ : kk_St} {x s : Nat} {L Y : Nat → Nat}
theorem sh_end (W : Wf n m a b) (P : Pr n m a b c) (H : FanL m a b x s L Y) {w d : Nat} (hw : w < s) (h0 : c (L 0) = -1) (hp : ∀ i, i < w → c (L (i + 1)) ≠ -1 ∧ usd m a b c (Y i) (c (L (i + 1))) = false) (hd : d ≤ Dg n m a b) (h1 : usd m a b c x (nI d) = false) (h2 : usd m a b c (Y w) (nI d) = false) : Pr n m a b (upd (shC L c w) (L w) (nI d)) := by
  have hD := Dg_le8 W
  obtain ⟨p1, p2, p3, p4, p5⟩ := sh_ok W P H hw h0 hp w (Nat.le_refl _)
  obtain ⟨l1, l2, l3⟩ := H.1 w hw
  have hdm : nI d ≠ -1 := nI_ne_m1 (by omega)
  have fx : usd m a b (shC L c w) x (nI d) = false := by
    cases hu : usd m a b (shC L c w) x (nI d) with
    | false => rfl
    | true => rw [p4 _ hdm hu] at h1; cases h1
  have fy := p5 w hw (Nat.le_refl _) _ hdm h2
  refine Pr_upd p1 (Or.inr ⟨d, hd, rfl⟩) (fun j hj hmt he => ?_)
  exfalso
  obtain ⟨_, p, g1, g2⟩ := mts_iff.mp hmt
  have ends : p = x ∨ p = Y w := by
    rw [← l3]
    unfold far
    have hwl := W.2.2.2.1 _ l1
    rcases inc_iff.mp l2 with z | z <;> rcases inc_iff.mp g1 with y | y
    · left; omega
    · right; rw [if_pos z]; exact y.symm
    · right; rw [if_neg (by omega)]; exact y.symm
    · left; omega
  rcases ends with z | z
  · have := anyb_no.mp fx j hj
    rw [← z, g2, decide_eq_true he] at this; cases this
  · have := anyb_no.mp fy j hj
    rw [← z, g2, decide_eq_true he] at this; cases this
theorem sc_shift (N : RN n m a b σ) (K : RK m c σ) (W : Wf n m a b) (P : Pr n m a b c) (hx : x < 9) (H : FanL m a b x s L Y) (hY : ∀ i, i < s → Y i < 9) (hs8 : s ≤ 8) (hl : ∀ i, i < s → fI (fun k => inc a b k x && inc a b k (Y i)) m = nI (L i)) (e18 : ∀ j, j < s → σ.1 18 j = nI (Y j)) {w d : Nat} (hw : w < s) (h0 : c (L 0) = -1) (hp : ∀ i, i < w → c (L (i + 1)) ≠ -1 ∧ usd m a b c (Y i) (c (L (i + 1))) = false) (hd : d ≤ Dg n m a b) {Q : kk_St → Prop} (h : ∀ τ, RK m (upd (shC L c w) (L w) (nI d)) τ → frL [16, 17] σ τ → Q τ) : f_X4_shift (nI x) (nI w) (nI d) σ Q := by
  have hm := W.2.2.1
  have hD := Dg_le8 W
  have ok := sh_ok W P H hw h0 hp
  unfold f_X4_shift
  refine ⟨vp_lt (k := 0) (by omega) (by omega), ?_⟩
  rw [show (0 : Int32) = nI 0 from rfl, rd_nI (by omega), e18 0 (by omega)]
  refine sc_lineBetween N hm hx (hY 0 (by omega)) ?_
  rw [hl 0 (by omega)]
  dsimp only [kk_j2, kk_j1]
  refine lf_3_1 (w + 1) (by omega) (fun i v τ => 1 ≤ i ∧ v = nI (L (i - 1)) ∧ RK m (shC L c (i - 1)) τ ∧ frL [16, 17] σ τ) (k0 := 1) (by omega) ⟨Nat.le_refl _, rfl, K, frL_rf⟩ ?_ ?_
  · rintro rec i v τ hi ⟨i1, rfl, K', F⟩ hrec
    obtain ⟨t, rfl⟩ : ∃ t, i = t + 1 := ⟨i - 1, by omega⟩
    rw [Nat.add_sub_cancel] at *
    obtain ⟨p1, p2, p3, p4, p5⟩ := ok t (by omega)
    obtain ⟨l1, l2, l3⟩ := H.1 t (by omega)
    obtain ⟨m1, m2, m3⟩ := H.1 (t + 1) (by omega)
    refine br_f (nI_nlt (by omega) (by omega)) ?_
    refine br_f (nI_ne_m1 (by omega)) ⟨vp_lt (by omega) (by omega), ?_⟩
    rw [rd_nI (by omega), F.1 18 (by simp), e18 (t + 1) (by omega)]
    refine sc_lineBetween (RN_fr N F (by simp)) hm hx (hY (t + 1) (by omega)) ?_
    rw [hl (t + 1) (by omega)]
    refine br_f (nI_ne_m1 (by omega)) ⟨vp_lt (by omega) (by omega), ?_⟩
    rw [rd_nI (by omega), K'.1 _ (by omega), if_pos m1]
    have eα : shC L c t (L (t + 1)) = c (L (t + 1)) := p3 _ (fun j hj z => by have := fan_ne H (by omega) (by omega) z; omega)
    refine br_f (by rw [eα]; exact (hp t (by omega)).1) ⟨vp_lt (by omega) (by omega), ?_⟩
    refine sc_strip K' (Pr9 W p1) hm m1 (fun τ1 K1 F1 => ?_)
    have P1 : Pr n m a b (upd (shC L c t) (L (t + 1)) (-1)) := Pr_upd p1 (Or.inl rfl) (fun _ _ _ _ => rfl)
    have hq : ∃ q, q ≤ Dg n m a b ∧ shC L c t (L (t + 1)) = nI q := by
      rcases p1.1 _ m1 with u | u
      · rw [eα] at u; exact absurd u (hp t (by omega)).1
      · exact u
    obtain ⟨q, hq, eq⟩ := hq
    rw [eq]
    refine sc_give K1 (Pr9 W P1) hm l1 (by omega) (fun τ2 K2 F2 => ?_)
    refine hrec _ _ ⟨by omega, rfl, ?_, frL_tr F (frL_tr F1 F2)⟩
    show RK m (upd (upd (shC L c t) (L (t + 1)) (-1)) (L t) (shC L c t (L (t + 1)))) τ2
    rw [eq]; exact K2
  · rintro rec v τ ⟨i1, rfl, K', F⟩
    rw [Nat.add_sub_cancel] at *
    obtain ⟨p1, p2, p3, p4, p5⟩ := ok w (Nat.le_refl _)
    obtain ⟨l1, l2, l3⟩ := H.1 w hw
    refine br_t (nI_lt (by omega) (by omega)) ?_
    refine br_f (nI_ne_m1 (by omega)) ?_
    exact sc_give K' (Pr9 W p1) hm l1 (by omega) (fun τ2 K2 F2 => h τ2 K2 (frL_tr F F2))
end
