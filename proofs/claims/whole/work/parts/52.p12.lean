/-! pair: overfull -/
/-- lines of a set that lie within a set of posts -/
def wi (m : Nat) (a b : Nat → Nat) (S : Nat → Bool) (X : Nat) : Nat := fb_ct (fun k => S k && (bt (nI X) (a k) && bt (nI X) (b k))) m
def crw (m : Nat) (a b : Nat → Nat) (S : Nat → Bool) (d X : Nat) : Bool := decide (3 ≤ pop (nI X)) && (decide (pop (nI X) % 2 = 1) && decide (d * (pop (nI X) / 2) < wi m a b S X))
def crS (n m : Nat) (a b : Nat → Nat) (S : Nat → Bool) (d : Nat) : Nat := if fa_first (fun X => decide (7 ≤ X) && crw m a b S d X) (2 ^ n) < 2 ^ n then fa_first (fun X => decide (7 ≤ X) && crw m a b S d X) (2 ^ n) else 0
theorem wi_le {m : Nat} {a b : Nat → Nat} {S : Nat → Bool} {X : Nat} : wi m a b S X ≤ m := fb_ct_le _ _
theorem pop_le (x : Int32) : pop x ≤ 32 := fb_ct_le _ _
theorem half : ∀ p : Nat, p < 33 → nI p / (2 : Int32) = nI (p / 2) ∧ nI p - nI p / (2 : Int32) * (2 : Int32) = nI (p % 2) := by decide
section
variable {n m : Nat} {a b : Nat → Nat} {c : Nat → Int32} {σ : kk_St}
theorem sc_linesWithin (N : RN n m a b σ) (W : Wf n m a b) {S : Nat → Bool} {X : Nat} {Q : Int32 → Prop} (h : Q (nI (wi m a b S X))) : f_X6_linesWithin (nI X) (mk S m) σ Q := by
  have hm := W.2.2.1
  have hn := W.2.1
  unfold f_X6_linesWithin
  refine lf_2_1 n (by omega) (fun k x => x = mk (fun l => anyb (fun p => !bt (nI X) p && inc a b l p) k) m) (k0 := 0) (by omega) ((mk_0 m).symm) ?_ ?_
  · rintro rec k x hk rfl hrec
    refine br_f (by rw [N.1]; exact nI_ge hk (by omega)) ?_
    dsimp only [kk_j1]
    refine ⟨fun z => hrec _ ?_, fun z => ⟨vp_lt (by omega) (by omega), fun y ey => hrec _ ?_⟩⟩
    · have z : bt (nI X) k = true := by
        cases hz : bt (nI X) k with
        | true => rfl
        | false => exact absurd ((z_bit0 _ (by omega)).mpr hz) z
      refine mk_cong (fun l _ => ?_)
      rw [anyb, z]; simp
    · have z := (z_bit0 _ (by omega)).mp z
      rw [ey, rd_nI (by omega), N.2.2.2.2.2.2.1 k (by omega), mk_or]
      refine mk_cong (fun l _ => ?_)
      rw [anyb, z]; simp
  · rintro rec x rfl
    refine br_t (by rw [N.1]; exact nI_le (Nat.le_refl _) (by omega)) ?_
    rw [mk_andn]
    refine sp_bitCountM (by omega) ?_
    have e : fb_ct (fun l => S l && !anyb (fun p => !bt (nI X) p && inc a b l p) n) m = wi m a b S X := by
      refine fb_ct_cong (fun l hl => ?_)
      congr 1
      have hw := W.2.2.2.1 l hl
      cases h1 : bt (nI X) (a l) && bt (nI X) (b l) with
      | true =>
        rw [Bool.and_eq_true] at h1
        rw [anyb_no.mpr (fun p _ => ?_)]; · rfl
        cases hi : inc a b l p with
        | false => rw [Bool.and_false]
        | true =>
          rcases inc_iff.mp hi with q | q
          · rw [← q, h1.1]; rfl
          · rw [← q, h1.2]; rfl
      | false =>
        have : anyb (fun p => !bt (nI X) p && inc a b l p) n = true := by
          rw [Bool.and_eq_false_iff] at h1
          rcases h1 with h1 | h1
          · exact anyb_iff.mpr ⟨a l, by omega, by rw [h1, inc_iff.mpr (Or.inl rfl)]; rfl⟩
          · exact anyb_iff.mpr ⟨b l, by omega, by rw [h1, inc_iff.mpr (Or.inr rfl)]; rfl⟩
        rw [this]; rfl
    rw [e]
    exact h
theorem sm_linesWithin (M : RM n m a b c σ) (W : Wf n m a b) {X : Nat} {Q : Int32 → Prop} (h : Q (nI (wi m a b allS X))) : f_X11_linesWithin (nI X) σ Q := by
  have hm := W.2.2.1
  have hn := W.2.1
  unfold f_X11_linesWithin
  refine lf_2_1 m (by omega) (fun k x => x = nI (fb_ct (fun k => allS k && (bt (nI X) (a k) && bt (nI X) (b k))) k)) (k0 := 0) (by omega) rfl ?_ ?_
  · rintro rec k x hk rfl hrec
    have hw := W.2.2.2.1 k hk
    refine br_f (by rw [M.2.1]; exact nI_ge hk (by omega)) ⟨vp_lt (by omega) (by omega), ?_⟩
    rw [rd_nI (by omega), rd_nI (by omega), M.2.2.1 k hk, M.2.2.2.1 k hk]
    refine sp_has (by omega) ?_
    rw [bI_ite]
    dsimp only [kk_j1]
    refine bI_zn (fun z => hrec _ ?_) (fun z => ⟨vp_lt (by omega) (by omega), ?_⟩)
    · rw [fb_ct_succ, z]; simp [allS]
    · refine sp_has (by omega) ?_
      rw [bI_ite]
      refine bI_zn (fun y => hrec _ ?_) (fun y => hrec _ ?_)
      · rw [fb_ct_succ, y]; simp
      · rw [fb_ct_succ, z, y, nI_1]; simp [allS]
  · rintro rec x rfl
    exact br_t (by rw [M.2.1]; exact nI_le (Nat.le_refl _) (by omega)) h
theorem all_nI {n : Nat} (hn : n ≤ 9) : mk (fun _ => true) n = nI (2 ^ n - 1) := by rw [← mk_ones (by omega), z_ones (by omega)]
theorem p2_le {n : Nat} (hn : n ≤ 9) : 2 ^ n ≤ 512 := Nat.pow_le_pow_right (n := 2) (by omega) hn
theorem p2_pos {n : Nat} : 1 ≤ 2 ^ n := Nat.one_le_two_pow
theorem sc_crowdedSet (N : RN n m a b σ) (W : Wf n m a b) {S : Nat → Bool} {d : Nat} (hd : d ≤ 9) {Q : Int32 → Prop} (h : Q (nI (crS n m a b S d))) : f_X6_crowdedSet (mk S m) (nI d) σ Q := by
  have hm := W.2.2.1
  have hn := W.2.1
  have h2 := p2_le hn
  have h1 := p2_pos (n := n)
  unfold f_X6_crowdedSet
  refine kk_lpI1 (fun x => ∃ X, x = nI X ∧ 7 ≤ X ∧ (X ≤ 2 ^ n ∨ X = 7) ∧ ∀ Y, Y < X → (decide (7 ≤ Y) && crw m a b S d Y) = false) (fun x => 512 - x.toNatClampNeg) ?_ ⟨7, rfl, by omega, Or.inr rfl, fun Y hY => by rw [decide_eq_false (by omega)]; rfl⟩
  rintro rec x ⟨X, rfl, hX7, hX2, hX0⟩ hrec
  have hX9 : X ≤ 512 := by omega
  refine sc_allPosts N hn ?_
  rw [all_nI hn]
  by_cases hlt : 2 ^ n - 1 < X
  · refine br_t (nI_lt hlt (by omega)) ?_
    unfold crS at h
    rw [if_neg (by rw [first_none (fun Y hY => hX0 Y (by omega))]; omega)] at h
    exact h
  · refine br_f (nI_nlt (by omega) (by omega)) ?_
    refine sp_bitCount rfl (by omega) ?_
    have hp := pop_le (nI X)
    obtain ⟨g1, g2⟩ := half (pop (nI X)) (by omega)
    have next : crw m a b S d X = false → rec (nI X + 1) := by
      intro z
      rw [nI_1]
      refine hrec _ ⟨X + 1, rfl, by omega, Or.inl (by omega), fun Y hY => ?_⟩ (by rw [nI_clamp (by omega), nI_clamp (by omega)]; omega)
      by_cases hYX : Y = X
      · rw [hYX, z, Bool.and_false]
      · exact hX0 Y (by omega)
    dsimp only [kk_j0]
    rw [g2, g1, z_mul]
    refine ⟨fun z => next ?_, fun z => ⟨fun y => next ?_, fun y => ?_⟩⟩
    · have : ¬ 3 ≤ pop (nI X) := fun q => nI_nlt (a := pop (nI X)) (b := 3) q (by omega) z
      unfold crw; rw [decide_eq_false this]; rfl
    · have : ¬ pop (nI X) % 2 = 1 := fun q => y (by rw [q]; rfl)
      unfold crw; rw [decide_eq_false this]; simp
    · have y : pop (nI X) % 2 = 1 := (nI_ne (j := 1) (by omega) (by omega)).mp y
      have z : 3 ≤ pop (nI X) := Nat.not_lt.mp (fun q => z (nI_lt (b := 3) q (by omega)))
      refine sc_linesWithin N W ?_
      have hw := wi_le (m := m) (a := a) (b := b) (S := S) (X := X)
      have hmul : d * (pop (nI X) / 2) ≤ 9 * 16 := Nat.mul_le_mul hd (by omega)
      refine ⟨fun u => next ?_, fun u => ?_⟩
      · have : ¬ d * (pop (nI X) / 2) < wi m a b S X := fun q => nI_ge q (by omega) u
        unfold crw; rw [decide_eq_false this]; simp
      · have u : d * (pop (nI X) / 2) < wi m a b S X := Nat.not_le.mp (fun q => u (nI_le q (by omega)))
        unfold crS at h
        rw [first_at (t := X) (by omega) (by unfold crw; rw [decide_eq_true hX7, decide_eq_true z, decide_eq_true y, decide_eq_true u]; rfl) hX0, if_pos (by omega)] at h
        exact h
theorem sm_fullSet (M : RM n m a b c σ) (W : Wf n m a b) {d : Nat} (hd : d ≤ 9) {Q : Int32 → Prop} (h : Q (nI (crS n m a b allS d))) : f_X11_fullSet (nI d) σ Q := by
  have hm := W.2.2.1
  have hn := W.2.1
  have h2 := p2_le hn
  have h1 := p2_pos (n := n)
  unfold f_X11_fullSet
  refine kk_lpI1 (fun x => ∃ X, x = nI X ∧ 7 ≤ X ∧ (X ≤ 2 ^ n ∨ X = 7) ∧ ∀ Y, Y < X → (decide (7 ≤ Y) && crw m a b allS d Y) = false) (fun x => 512 - x.toNatClampNeg) ?_ ⟨7, rfl, by omega, Or.inr rfl, fun Y hY => by rw [decide_eq_false (by omega)]; rfl⟩
  rintro rec x ⟨X, rfl, hX7, hX2, hX0⟩ hrec
  have hX9 : X ≤ 512 := by omega
  refine sm_allPosts M hn ?_
  rw [all_nI hn]
  by_cases hlt : 2 ^ n - 1 < X
  · refine br_t (nI_lt hlt (by omega)) ?_
    unfold crS at h
    rw [if_neg (by rw [first_none (fun Y hY => hX0 Y (by omega))]; omega)] at h
    exact h
  · refine br_f (nI_nlt (by omega) (by omega)) ?_
    refine sp_bitsOf rfl (by omega) ?_
    have hp := pop_le (nI X)
    obtain ⟨g1, g2⟩ := half (pop (nI X)) (by omega)
    have next : crw m a b allS d X = false → rec (nI X + 1) := by
      intro z
      rw [nI_1]
      refine hrec _ ⟨X + 1, rfl, by omega, Or.inl (by omega), fun Y hY => ?_⟩ (by rw [nI_clamp (by omega), nI_clamp (by omega)]; omega)
      by_cases hYX : Y = X
      · rw [hYX, z, Bool.and_false]
      · exact hX0 Y (by omega)
    dsimp only [kk_j0]
    rw [g2, g1, z_mul]
    refine ⟨fun z => next ?_, fun z => ⟨fun y => next ?_, fun y => ?_⟩⟩
    · have : ¬ 3 ≤ pop (nI X) := fun q => nI_nlt (a := pop (nI X)) (b := 3) q (by omega) z
      unfold crw; rw [decide_eq_false this]; rfl
    · have : ¬ pop (nI X) % 2 = 1 := fun q => y (by rw [q]; rfl)
      unfold crw; rw [decide_eq_false this]; simp
    · have y : pop (nI X) % 2 = 1 := (nI_ne (j := 1) (by omega) (by omega)).mp y
      have z : 3 ≤ pop (nI X) := Nat.not_lt.mp (fun q => z (nI_lt (b := 3) q (by omega)))
      refine sm_linesWithin M W ?_
      have hw := wi_le (m := m) (a := a) (b := b) (S := allS) (X := X)
      have hmul : d * (pop (nI X) / 2) ≤ 9 * 16 := Nat.mul_le_mul hd (by omega)
      refine ⟨fun u => next ?_, fun u => ?_⟩
      · have : ¬ d * (pop (nI X) / 2) < wi m a b allS X := fun q => nI_ge q (by omega) u
        unfold crw; rw [decide_eq_false this]; simp
      · have u : d * (pop (nI X) / 2) < wi m a b allS X := Nat.not_le.mp (fun q => u (nI_le q (by omega)))
        unfold crS at h
        rw [first_at (t := X) (by omega) (by unfold crw; rw [decide_eq_true hX7, decide_eq_true z, decide_eq_true y, decide_eq_true u]; rfl) hX0, if_pos (by omega)] at h
        exact h
theorem crS_lt {n m : Nat} {a b : Nat → Nat} {S : Nat → Bool} {d : Nat} : crS n m a b S d < 2 ^ n := by
  unfold crS
  have := p2_pos (n := n)
  split <;> omega
end
theorem q_overfull : pr_overfull Rel := by
  rintro σ1 σ2 ⟨n, m, a, b, c, kp, ls, kf, gf, W, P, M, N, K, Z⟩ v1
  have hm := W.2.2.1
  have hn := W.2.1
  have hD := Dg_le8 W
  have same : Rel σ1 σ2 := ⟨n, m, a, b, c, kp, ls, kf, gf, W, P, M, N, K, Z⟩
  have bad : (¬ ((0 : Int32) ≤ v1 ∧ v1 ≤ 2)) → f_X11_overfull v1 σ2 (fun r' => (-1 : Int32) = r' ∧ Rel σ1 σ2) := by
    intro h
    unfold f_X11_overfull
    refine sp_in ?_
    rw [if_neg h]
    exact jn_f rfl ⟨rfl, same⟩
  unfold f_X10_overfull
  dsimp only [kk_j0]
  refine ⟨fun h => bad (fun z => Int32.not_lt.mpr z.1 h), fun h => ⟨fun h2 => ?_, fun h2 => bad (fun z => h2 z.2)⟩⟩
  refine sc_allLines N hm ?_
  rw [N.2.2.1]
  refine sc_crowdedSet N W (S := fun _ => true) (by omega) ?_
  have hc : crS n m a b (fun _ => true) (Dg n m a b) < 2 ^ n := crS_lt
  have h9 := p2_le hn
  have mod : ∀ {Q : Int32 → Prop}, ((¬ nI (crS n m a b (fun _ => true) (Dg n m a b)) = 0 → (¬ v1 = 0 → (¬ v1 = 1 → Q (nI (Dg n m a b) * (nI (pop (nI (crS n m a b (fun _ => true) (Dg n m a b)))) / 2))) ∧ (v1 = 1 → Q (nI (wi m a b (fun _ => true) (crS n m a b (fun _ => true) (Dg n m a b)))))) ∧ (v1 = 0 → Q (nI (crS n m a b (fun _ => true) (Dg n m a b))))) ∧ (nI (crS n m a b (fun _ => true) (Dg n m a b)) = 0 → Q (-2))) → f_X11_overfull v1 σ2 Q := by
    intro Q g
    unfold f_X11_overfull
    refine sp_in ?_
    rw [if_pos ⟨Int32.not_lt.mp h, h2⟩]
    refine jn_t (by decide) ?_
    refine sm_degree M W ?_
    refine sm_fullSet M W (by omega) ?_
    refine ⟨fun z => ?_, fun z => g.2 z⟩
    have g := g.1 z
    dsimp only [kk_j1]
    refine ⟨fun y => ⟨fun y1 => ?_, fun y1 => ?_⟩, fun y => g.2 y⟩
    · refine sm_degree M W ?_
      exact sp_bitsOf rfl (Nat.lt_of_lt_of_le crS_lt (by omega)) ((g.1 y).1 y1)
    · exact sm_linesWithin M W ((g.1 y).2 y1)
  refine ⟨fun z => ⟨fun y => ?_, fun y => ?_⟩, fun z => ?_⟩
  · dsimp only [kk_j1]
    refine ⟨fun y1 => ?_, fun y1 => ?_⟩
    · refine sp_bitCount rfl (by omega) ?_
      exact mod ⟨fun _ => ⟨fun _ => ⟨fun _ => ⟨rfl, same⟩, fun q => absurd q y1⟩, fun q => absurd q y⟩, fun q => absurd q z⟩
    · refine sc_allLines N hm ?_
      refine sc_linesWithin N W (S := fun _ => true) ?_
      exact mod ⟨fun _ => ⟨fun _ => ⟨fun q => absurd y1 q, fun _ => ⟨rfl, same⟩⟩, fun q => absurd q y⟩, fun q => absurd q z⟩
  · exact mod ⟨fun _ => ⟨fun q => absurd y q, fun _ => ⟨rfl, same⟩⟩, fun q => absurd q z⟩
  · exact mod ⟨fun q => absurd z q, fun _ => ⟨rfl, same⟩⟩
