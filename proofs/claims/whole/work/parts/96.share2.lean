/-! shares: both sides -/
def dl (z u : Nat) : Nat := if u = z then 1 else 0
section
variable {n m : Nat} {a b : Nat → Nat} {c : Nat → Int32}
theorem sc_share (W : Wf n m a b) (h9 : m ≤ 9) : ∀ (F q : Nat) (p : Nat → Nat) (σ : kk_St) (h : Nat → Nat) (Q : kk_St → Prop), q ≤ m → q < F → RN n m a b σ → (∀ g, g < 9 → σ.1 25 g = mk (fun j => decide (j < m - q) && decide (p j = g)) m) → (∀ z, z ≤ 9 → σ.1 26 z = nI (h z)) → (∀ k, k ≤ m - q → pa p k ≤ k) → (∀ τ, frL [25, 26] σ τ → (∀ g, g < 9 → τ.1 25 g = σ.1 25 g) → (∀ z, z ≤ 9 → τ.1 26 z = nI (h z + Wg m a b (dl z) 0 q p)) → Q τ) → f_X8_share F (nI (m - q)) (nI (pa p (m - q))) σ Q
  | 0, _, _, _, _, _, _, hF, _, _, _, _, _ => absurd hF (Nat.not_lt_zero _)
  | F + 1, 0, p, σ, h, Q, hq, hF, N, hG, hH, hp, hQ => by
    have hm := W.2.2.1
    rw [Nat.sub_zero] at hp ⊢
    have pm := hp m (Nat.le_refl _)
    unfold f_X8_share
    dsimp only [kk_j0]
    rw [N.2.1]
    refine br_t (nI_le (Nat.le_refl _) (by omega)) ⟨vp_lt (by omega) (by omega), vp_lt (by omega) (by omega), ?_⟩
    rintro _ rfl
    rw [nI_clamp (by omega), rd_nI (by omega), hH _ (by omega), nI_1]
    refine hQ _ (frL_wr (by simp)) (fun g _ => by rw [wr_ne _ _ _ (by decide)]) (fun z hz => ?_)
    rw [wr_at, upd_if]
    show _ = nI (h z + dl z (pa p m))
    unfold dl
    by_cases e : z = pa p m
    · rw [if_pos e, if_pos e.symm, e]
    · rw [if_neg e, if_neg (fun x => e x.symm), hH z hz]; rfl
  | F + 1, q + 1, p, σ, h, Q, hq, hF, N, hG, hH, hp, hQ => by
    have hm := W.2.2.1
    obtain ⟨i, hi⟩ : ∃ i, m - (q + 1) = i := ⟨_, rfl⟩
    have ei : m - 1 - q = i := by omega
    have ei1 : m - q = i + 1 := by omega
    rw [hi] at hG hp ⊢
    have pi := hp i (Nat.le_refl _)
    unfold f_X8_share
    dsimp only [kk_j0, kk_j1]
    rw [N.2.1]
    refine br_f (nI_ge (show i < m by omega) (by omega)) (br_t (nI_lt (a := i) (b := 9) (by omega) (by omega)) ?_)
    have Fg : ∀ z g, sumN (fun g => 0 + (if fits a b p i g then Wg m a b (dl z) 0 q (ext1 p i g) else 0)) (g + 1) = sumN (fun g => 0 + (if fits a b p i g then Wg m a b (dl z) 0 q (ext1 p i g) else 0)) g + (0 + (if fits a b p i g then Wg m a b (dl z) 0 q (ext1 p i g) else 0)) := fun z g => rfl
    refine lf_2_0 (pa p i + 1) (by omega) (fun g τ => frL [25, 26] σ τ ∧ (∀ x, x < 9 → τ.1 25 x = σ.1 25 x) ∧ ∀ z, z ≤ 9 → τ.1 26 z = nI (h z + sumN (fun g => 0 + (if fits a b p i g then Wg m a b (dl z) 0 q (ext1 p i g) else 0)) g)) (Nat.zero_le _) ⟨frL_rf, fun _ _ => rfl, fun z hz => hH z hz⟩ ?_ ?_
    · rintro rec g τ hg ⟨fr, gs, hs⟩ hrec
      have Nk := RN_fr N fr (by simp)
      refine br_f (nI_nlt (a := pa p i) (b := g) (by omega) (by omega)) (br_f (nI_ge (a := g) (b := 9) (by omega) (by omega)) ⟨vp_lt (by omega) (by omega), vp_lt (by omega) (by omega), ?_⟩)
      rw [rd_nI (q := 25) (show g < 2 ^ 31 by omega), rd_nI (q := 13) (show i < 2 ^ 31 by omega), gs g (by omega), hG g (by omega), Nk.2.2.2.2.2.1 i (by omega), mk_and, mk_eq0 (by omega)]
      have ft : (∀ k, k < m → ((decide (k < i) && decide (p k = g)) && mts a b i k) = false) ↔ fits a b p i g = true := by
        unfold fits
        rw [Bool.not_eq_true', anyb_no]
        constructor
        · intro x j hj
          have := x j (by omega)
          rw [decide_eq_true hj, Bool.true_and] at this
          exact this
        · intro x j hj
          by_cases e : j < i
          · rw [decide_eq_true e, Bool.true_and]; exact x j e
          · rw [decide_eq_false e]; rfl
      refine ⟨fun z => hrec _ ⟨fr, gs, fun x hx => ?_⟩, fun z => ⟨vp_lt (by omega) (by omega), vp_lt (by omega) (by omega), ?_⟩⟩
      · have f0 : fits a b p i g = false := by
          cases y : fits a b p i g with
          | false => rfl
          | true => exact absurd (ft.mpr y) z
        rw [hs x hx, Fg, f0]; rfl
      · have f1 := ft.mp z
        rintro _ rfl
        have cg : Int32.toNatClampNeg (nI g) = g := nI_clamp (by omega)
        rw [cg, mk_set (show i < m by omega) (by omega)]
        have f10 : frL [25, 26] σ (kk_wr τ 25 g (mk (fun j => (decide (j < i) && decide (p j = g)) || decide (j = i)) m)) := frL_tr fr (frL_wr (by simp))
        have N10 := RN_fr N f10 (by simp)
        have mxx : kk_max (nI (pa p i)) (nI g + 1) = nI (pa (ext1 p i g) (i + 1)) := by
          rw [nI_1, kk_max_nI (by omega) (by omega), pa_x]
        rw [nI_1 i, mxx]
        have pb : pa (ext1 p i g) (i + 1) ≤ i + 1 := by rw [pa_x]; split <;> omega
        have rec' := sc_share W h9 F q (ext1 p i g) (kk_wr τ 25 g (mk (fun j => (decide (j < i) && decide (p j = g)) || decide (j = i)) m)) (fun z => h z + sumN (fun g => 0 + (if fits a b p i g then Wg m a b (dl z) 0 q (ext1 p i g) else 0)) g)
        rw [ei1] at rec'
        refine rec' _ (by omega) (by omega) N10 (fun x hx => ?_) (fun z hz => by rw [wr_ne _ _ _ (by decide)]; exact hs z hz) (fun k hk => ?_) (fun τ2 fr2 g2 h2 => ⟨vp_lt (by omega) (by omega), vp_lt (by omega) (by omega), ?_⟩)
        · rw [wr_at, upd_if]
          by_cases e : x = g
          · rw [if_pos e]
            refine mk_cong (fun j _ => ?_)
            by_cases e2 : j = i
            · rw [e2, x1_at, decide_eq_true e.symm, decide_eq_true (show i < i + 1 by omega)]; simp
            · rw [x1_ne _ _ e2, decide_eq_false e2, Bool.or_false, e]
              by_cases e3 : j < i
              · rw [decide_eq_true e3, decide_eq_true (show j < i + 1 by omega)]
              · rw [decide_eq_false e3, decide_eq_false (show ¬ j < i + 1 by omega)]
          · rw [if_neg e, gs x hx, hG x hx]
            refine mk_cong (fun j _ => ?_)
            by_cases e2 : j = i
            · rw [e2, x1_at, decide_eq_false (show ¬ g = x from fun y => e y.symm), decide_eq_false (Nat.lt_irrefl i)]; simp
            · rw [x1_ne _ _ e2]
              by_cases e3 : j < i
              · rw [decide_eq_true e3, decide_eq_true (show j < i + 1 by omega)]
              · rw [decide_eq_false e3, decide_eq_false (show ¬ j < i + 1 by omega)]
        · by_cases ek : k = i + 1
          · rw [ek]; exact pb
          · rw [pa_cong (p := ext1 p i g) (p' := p) (fun j hj => x1_ne _ _ (by omega))]
            exact hp k (by omega)
        · rintro _ rfl
          rw [rd_nI (q := 25) (show g < 2 ^ 31 by omega), g2 g (by omega), wr_at, upd_at, mk_clr (show i < m by omega) (by omega)]
          refine hrec _ ⟨frL_tr (frL_tr f10 fr2) (frL_wr (by simp)), fun x hx => ?_, fun z hz => ?_⟩
          · rw [wr_at, upd_if]
            by_cases e : x = g
            · rw [if_pos e, e, hG g (by omega)]
              refine mk_cong (fun j _ => ?_)
              by_cases e2 : j = i
              · rw [e2, decide_eq_false (Nat.lt_irrefl i)]; simp
              · rw [decide_eq_false e2]; simp
            · rw [if_neg e, g2 x hx, wr_at, upd_ne _ _ e]; exact gs x hx
          · rw [wr_ne _ _ _ (by decide), h2 z hz, Fg, f1, if_pos rfl, Nat.zero_add, Nat.add_assoc]
    · rintro rec τ ⟨fr, gs, hs⟩
      refine br_t (nI_lt (by omega) (by omega)) (hQ τ fr gs (fun z hz => ?_))
      rw [hs z hz]
      congr 1
      show _ = h z + (sumN (fun g => 0 + (if fits a b p (m - 1 - q) g then Wg m a b (dl z) 0 q (ext1 p (m - 1 - q) g) else 0)) (pa p (m - 1 - q) + 1) + 0)
      rw [ei]
      exact congrArg (fun x => h z + x) (Nat.add_zero _).symm
end
