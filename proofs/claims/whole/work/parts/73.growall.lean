/-! pair: growAll; one colour over the degree does -/
theorem sh_bare {m : Nat} {a b : Nat → Nat} {c : Nat → Int32} {x s : Nat} {L Y : Nat → Nat} (H : FanL m a b x s L Y) {w : Nat} (hw : w < s) (h0 : c (L 0) = -1) (hp : ∀ i, i < w → c (L (i + 1)) ≠ -1) :
    ∀ i, i ≤ w → (∀ k, shC L c i k = -1 ↔ k = L i ∨ (c k = -1 ∧ k ≠ L 0)) ∧ ∀ j, i < j → j < s → shC L c i (L j) = c (L j)
  | 0, _ => ⟨fun k => ⟨fun h => by
      by_cases z : k = L 0
      · exact Or.inl z
      · exact Or.inr ⟨h, z⟩, fun h => by
      rcases h with rfl | h
      · exact h0
      · exact h.1⟩, fun _ _ _ => rfl⟩
  | i + 1, hi => by
    obtain ⟨p1, p2⟩ := sh_bare H hw h0 hp i (by omega)
    have ev : ∀ k, shC L c (i + 1) k = if k = L i then c (L (i + 1)) else if k = L (i + 1) then -1 else shC L c i k := by
      intro k
      show upd (upd (shC L c i) (L (i + 1)) (-1)) (L i) (shC L c i (L (i + 1))) k = _
      rw [upd_if, p2 (i + 1) (by omega) (by omega), upd_if]
    refine ⟨fun k => ?_, fun j hj hs => ?_⟩
    · rw [ev k]
      by_cases z : k = L i
      · rw [if_pos z]
        refine ⟨fun h => absurd h (hp i (by omega)), fun h => ?_⟩
        rcases h with h | ⟨h, g⟩
        · have := fan_ne H (by omega) (by omega) (z.symm.trans h); omega
        · rcases Nat.eq_zero_or_pos i with y | y
          · subst y; exact absurd z g
          · have := hp (i - 1) (by omega)
            rw [Nat.sub_add_cancel y, ← z] at this
            exact absurd h this
      · rw [if_neg z]
        by_cases y : k = L (i + 1)
        · rw [if_pos y]; exact ⟨fun _ => Or.inl y, fun _ => rfl⟩
        · rw [if_neg y, p1 k]
          exact ⟨fun h => by
            rcases h with h | h
            · exact absurd h z
            · exact Or.inr h, fun h => by
            rcases h with h | h
            · exact absurd h y
            · exact Or.inr h⟩
    · rw [ev, if_neg (fun z => by have := fan_ne H (by omega) (by omega) z; omega), if_neg (fun z => by have := fan_ne H (by omega) (by omega) z; omega)]
      exact p2 j (by omega) hs
abbrev GT := Nat × Nat × Nat × Nat × (Nat → Int32) × Nat
def gwT (n m : Nat) (a b : Nat → Nat) (c : Nat → Int32) (k : Nat) (t : GT) : Prop := GW n m a b c (a k) k t.1 t.2.1 t.2.2.1 t.2.2.2.1 t.2.2.2.2.1 t.2.2.2.2.2
def gE (m : Nat) (a b : Nat → Nat) (c : Nat → Int32) (k : Nat) (t : GT) : Nat → Int32 := upd (shC (fLn m a b c (a k) k) t.2.2.2.2.1 t.2.2.2.2.2) (fLn m a b c (a k) k t.2.2.2.2.2) (nI t.2.2.1)
section
variable {n m : Nat} {a b : Nat → Nat} {c : Nat → Int32}
theorem gE_bare (W : Wf n m a b) (P : Pr n m a b c) {k : Nat} {t : GT} (hk : k < m) (hc : c k = -1) (G : gwT n m a b c k t) : ∀ j, j < m → (gE m a b c k t j = -1 ↔ c j = -1 ∧ j ≠ k) := by
  intro j hj
  have hD := Dg_le8 W
  have hi0 : inc a b k (a k) = true := inc_iff.mpr (Or.inl rfl)
  obtain ⟨u1, u2, u3, H, u5⟩ := GW_use W P hk hi0 hc G
  obtain ⟨hs, hs8, ⟨r1, r2, r3⟩, ⟨d1, d2, d3⟩, hcc, hw, hp, hf⟩ := G
  have B := (sh_bare H hw u2 (fun i hi => (hp.1 i hi).1) _ (Nat.le_refl _)).1 j
  have keep : t.2.2.2.2.1 j = -1 ↔ c j = -1 := by
    rcases hcc with ⟨h1, h2, _⟩ | ⟨h1, h2, _⟩
    · rw [h2]
    · rw [h2]
      show (if gC m a b c (a k) t.2.1 t.2.2.1 j = true then (if c j = nI t.2.1 then nI t.2.2.1 else nI t.2.1) else c j) = -1 ↔ _
      cases z : gC m a b c (a k) t.2.1 t.2.2.1 j with
      | false => exact Iff.rfl
      | true =>
        rw [if_pos rfl]
        constructor
        · intro h
          by_cases y : c j = nI t.2.1
          · rw [if_pos y] at h; exact absurd h (nI_ne_m1 (by omega))
          · rw [if_neg y] at h; exact absurd h (nI_ne_m1 (by omega))
        · intro h
          rcases pool_or (rch_pool z) with y | y
          · rw [h] at y; exact absurd y.symm (nI_ne_m1 (by omega))
          · rw [h] at y; exact absurd y.symm (nI_ne_m1 (by omega))
  show upd _ _ _ j = -1 ↔ _
  rw [upd_if]
  by_cases z : j = fLn m a b c (a k) k t.2.2.2.2.2
  · rw [if_pos z]
    refine ⟨fun h => absurd h (nI_ne_m1 (by omega)), fun ⟨h, g⟩ => ?_⟩
    exfalso
    rcases Nat.eq_zero_or_pos t.2.2.2.2.2 with y | y
    · rw [y] at z; exact g z
    · have := (hp.1 (t.2.2.2.2.2 - 1) (by omega)).1
      obtain ⟨w', hw'⟩ : ∃ w', t.2.2.2.2.2 = w' + 1 := ⟨_, (Nat.sub_add_cancel y).symm⟩
      rw [hw'] at z this
      rw [Nat.add_sub_cancel] at this
      have z' : j = fln m a b c (a k) (far a b (a k) k) w' := z
      rw [← z'] at this
      exact this (keep.mpr h)
  · rw [if_neg z, B, keep]
    exact ⟨fun h => by
      rcases h with h | h
      · exact absurd h z
      · exact h, fun h => Or.inr h⟩
theorem gw_pick (W : Wf n m a b) : ∃ g : (Nat → Int32) × Nat → GT, ∀ q, Pr n m a b q.1 → q.2 < m → q.1 q.2 = -1 → gwT n m a b q.1 q.2 (g q) := by
  refine Classical.axiomOfChoice (r := fun (q : (Nat → Int32) × Nat) (t : GT) => Pr n m a b q.1 → q.2 < m → q.1 q.2 = -1 → gwT n m a b q.1 q.2 t) (fun q => ?_)
  by_cases h : Pr n m a b q.1 ∧ q.2 < m ∧ q.1 q.2 = -1
  · obtain ⟨s, r, d, B, c', w, G⟩ := GW_ex W h.1 h.2.1 (x := a q.2) (inc_iff.mpr (Or.inl rfl)) h.2.2
    exact ⟨(s, r, d, B, c', w), fun _ _ _ => G⟩
  · exact ⟨(0, 0, 0, 0, fun _ => 0, 0), fun h1 h2 h3 => absurd ⟨h1, h2, h3⟩ h⟩
/-- the colours after the first k lines, and the numbers of the last growing -/
def gsq (m : Nat) (a b : Nat → Nat) (g : (Nat → Int32) × Nat → GT) (c : Nat → Int32) : Nat → (Nat → Int32) × Bool × GT
  | 0 => (c, false, (0, 0, 0, 0, fun _ => 0, 0))
  | k + 1 => if (gsq m a b g c k).1 k = -1 then (gE m a b (gsq m a b g c k).1 k (g ((gsq m a b g c k).1, k)), true, g ((gsq m a b g c k).1, k)) else gsq m a b g c k
theorem gsq_ok (W : Wf n m a b) (P : Pr n m a b c) {g : (Nat → Int32) × Nat → GT} (hg : ∀ q, Pr n m a b q.1 → q.2 < m → q.1 q.2 = -1 → gwT n m a b q.1 q.2 (g q)) :
    ∀ k, k ≤ m → Pr n m a b (gsq m a b g c k).1 ∧ ∀ j, j < m → ((gsq m a b g c k).1 j = -1 ↔ c j = -1 ∧ k ≤ j)
  | 0, _ => ⟨P, fun j _ => ⟨fun h => ⟨h, Nat.zero_le _⟩, fun h => h.1⟩⟩
  | k + 1, hk => by
    obtain ⟨p1, p2⟩ := gsq_ok W P hg k (by omega)
    by_cases z : (gsq m a b g c k).1 k = -1
    · have G := hg ((gsq m a b g c k).1, k) p1 (show k < m by omega) z
      have e : (gsq m a b g c (k + 1)).1 = gE m a b (gsq m a b g c k).1 k (g ((gsq m a b g c k).1, k)) := by
        show (if _ then _ else _ : (Nat → Int32) × Bool × GT).1 = _
        rw [if_pos z]
      rw [e]
      refine ⟨(GW_use W p1 (show k < m by omega) (inc_iff.mpr (Or.inl rfl)) z G).2.2.2.2, fun j hj => ?_⟩
      rw [gE_bare W p1 (show k < m by omega) z G j hj, p2 j hj]
      exact ⟨fun h => ⟨h.1.1, by omega⟩, fun h => ⟨⟨h.1, by omega⟩, by omega⟩⟩
    · have e : gsq m a b g c (k + 1) = gsq m a b g c k := by
        show (if _ then _ else _ : (Nat → Int32) × Bool × GT) = _
        rw [if_neg z]
      rw [e]
      refine ⟨p1, fun j hj => ?_⟩
      rw [p2 j hj]
      have nk := mt (p2 k (by omega)).mpr z
      constructor
      · rintro ⟨h1, h2⟩
        refine ⟨h1, ?_⟩
        rcases Nat.lt_or_ge k j with y | y
        · exact y
        · have : j = k := by omega
          subst this
          exact absurd ⟨h1, Nat.le_refl _⟩ nk
      · rintro ⟨h1, h2⟩
        exact ⟨h1, by omega⟩
/-- Vizing: one colour over the degree does, for all lines -/
theorem exc_over (W : Wf n m a b) : exc m a b (Lk (Dg n m a b + 1)) allS := by
  obtain ⟨g, hg⟩ := gw_pick W
  have P : Pr n m a b (fun _ => -1) := ⟨fun _ _ => Or.inl rfl, fun _ _ _ _ _ _ => rfl⟩
  obtain ⟨p1, p2⟩ := gsq_ok W P hg m (Nat.le_refl _)
  have hD := Dg_le8 W
  have ex : ∀ k, k < m → ∃ q, q ≤ Dg n m a b ∧ (gsq m a b g (fun _ => -1) m).1 k = nI q := fun k hk => by
    rcases p1.1 k hk with h | h
    · have := ((p2 k hk).mp h).2; omega
    · exact h
  refine ⟨fun k => ((gsq m a b g (fun _ => -1) m).1 k).toNatClampNeg, fun k hk _ => ?_, fun i j hi hj _ _ hm he => ?_⟩
  · obtain ⟨q, h1, h2⟩ := ex k hk
    refine decide_eq_true (?_ : ((gsq m a b g (fun _ => -1) m).1 k).toNatClampNeg < Dg n m a b + 1)
    rw [h2, nI_clamp (by omega)]
    omega
  · obtain ⟨q, h1, h2⟩ := ex i hi
    obtain ⟨q', h1', h2'⟩ := ex j hj
    dsimp only at he
    rw [h2, h2', nI_clamp (by omega), nI_clamp (by omega)] at he
    have := p1.2 i j hi hj hm (by rw [h2, h2', he])
    rw [h2] at this
    exact absurd this (nI_ne_m1 (by omega))
end
theorem q_growAll : pr_growAll Rel := by
  rintro σ1 σ2 ⟨n, m, a, b, c, kp, ls, kf, gf, W, P, M, N, K, Z⟩ _
  have hm := W.2.2.1
  have hn := W.2.1
  obtain ⟨g, hg⟩ := gw_pick (n := n) (m := m) (a := a) (b := b) W
  have ok := gsq_ok W P hg
  have st : ∀ k, (gsq m a b g c k).1 k = -1 → gsq m a b g c (k + 1) = (gE m a b (gsq m a b g c k).1 k (g ((gsq m a b g c k).1, k)), true, g ((gsq m a b g c k).1, k)) := fun k z => by
    show (if _ then _ else _ : (Nat → Int32) × Bool × GT) = _
    rw [if_pos z]
  have sf : ∀ k, ¬ (gsq m a b g c k).1 k = -1 → gsq m a b g c (k + 1) = gsq m a b g c k := fun k z => by
    show (if _ then _ else _ : (Nat → Int32) × Bool × GT) = _
    rw [if_neg z]
  unfold f_X10_growAll
  refine lf_3_1 m (by omega) (fun k x τ => x = nI (fb_ct (fun j => decide ((gsq m a b g c j).1 j = -1)) k) ∧ frL [3, 18, 16, 17, 19, 4] σ1 τ ∧ RK m (gsq m a b g c k).1 τ ∧ ((gsq m a b g c k).2.1 = true → τ.1 19 0 = nI (gsq m a b g c k).2.2.2.1 ∧ τ.1 19 1 = nI (gsq m a b g c k).2.2.2.2.1 ∧ τ.1 19 2 = nI (gsq m a b g c k).2.2.1 ∧ τ.1 19 3 = nI (gsq m a b g c k).2.2.2.2.2.2.2 ∧ τ.1 19 4 = nI (gsq m a b g c k).2.2.2.2.2.1 ∧ τ.1 4 4 = 1) ∧ ((gsq m a b g c k).2.1 = false → τ.1 19 = σ1.1 19 ∧ τ.1 4 = σ1.1 4)) (Nat.zero_le m) ⟨rfl, frL_rf, K, fun h => (by cases h), fun _ => ⟨rfl, rfl⟩⟩ ?_ ?_
  · rintro rec k _ τ hk ⟨rfl, F, Kk, I1, I0⟩ hrec
    have Nk := RN_fr N F (by simp)
    obtain ⟨p1, p2⟩ := ok k (by omega)
    rw [Nk.2.1]
    refine ⟨fun h => absurd h (nI_ge hk (by omega)), fun _ => ⟨vp_lt (by omega) (by omega), ?_⟩⟩
    rw [rd_nI (by omega), Kk.1 k (by omega), if_pos hk]
    dsimp only [kk_j2]
    refine ⟨fun z => hrec _ _ ?_, fun z => ?_⟩
    · rw [sf k z]
      exact ⟨by rw [fb_ct_succ, decide_eq_false z]; rfl, F, Kk, I1, I0⟩
    · refine sc_raise Nk Kk W p1 hk z (hg (_, k) p1 hk z) (fun τ' F' K' a0 a1 a2 a3 a4 a5 => hrec _ _ ?_)
      rw [st k z]
      refine ⟨by rw [fb_ct_succ, decide_eq_true z]; exact nI_1 _, frL_tr F F', K', fun _ => ⟨a0, a1, a2, a3, a4, a5⟩, fun h => by cases h⟩
  · rintro rec _ τ ⟨rfl, F, Kk, I1, I0⟩
    have Nk := RN_fr N F (by simp)
    rw [Nk.2.1]
    refine ⟨fun _ => ?_, fun h => absurd (nI_le (Nat.le_refl _) (by omega)) h⟩
    unfold f_X11_growAll
    refine lf_3_1 m (by omega) (fun k x ρ => x = nI (fb_ct (fun j => decide ((gsq m a b g c j).1 j = -1)) k) ∧ frF [6, 7, 3] [11, 9, 12] σ2 ρ ∧ RM n m a b (gsq m a b g c k).1 ρ ∧ ((gsq m a b g c k).2.1 = true → ρ.1 7 0 = nI (gsq m a b g c k).2.2.2.1 ∧ ρ.1 7 1 = nI (gsq m a b g c k).2.2.2.2.1 ∧ ρ.1 7 2 = nI (gsq m a b g c k).2.2.1 ∧ ρ.1 7 3 = nI (gsq m a b g c k).2.2.2.2.2.2.2 ∧ ρ.1 7 4 = nI (gsq m a b g c k).2.2.2.2.2.1 ∧ ρ.1 0 12 = 1) ∧ ((gsq m a b g c k).2.1 = false → ρ.1 7 = σ2.1 7 ∧ ρ.1 0 12 = σ2.1 0 12)) (Nat.zero_le m) ⟨rfl, frF_rf, M, fun h => (by cases h), fun _ => ⟨rfl, rfl⟩⟩ ?_ ?_
    · rintro rec k _ ρ hk ⟨rfl, G, Mk, J1, J0⟩ hrec
      obtain ⟨p1, p2⟩ := ok k (by omega)
      rw [Mk.2.1]
      refine ⟨fun h => absurd h (nI_ge hk (by omega)), fun _ => ⟨vp_lt (by omega) (by omega), ?_⟩⟩
      rw [rd_nI (by omega), Mk.2.2.2.2 k hk]
      dsimp only [kk_j2, kk_j1]
      refine ⟨fun z => ?_, fun z => hrec _ _ ?_⟩
      · have z := (neg_lt W p1 hk).mp z
        have hG := hg (_, k) p1 hk z
        refine sm_grows Mk W p1 hk z hG (fun ρ' F' M' b0 b1 b2 b3 b4 b5 => ?_)
        have P' := (GW_use W p1 hk (inc_iff.mpr (Or.inl rfl)) z hG).2.2.2.2
        have nb : ¬ (upd (shC (fLn m a b (gsq m a b g c k).1 (a k) k) (g ((gsq m a b g c k).1, k)).2.2.2.2.1 (g ((gsq m a b g c k).1, k)).2.2.2.2.2) (fLn m a b (gsq m a b g c k).1 (a k) k (g ((gsq m a b g c k).1, k)).2.2.2.2.2) (nI (g ((gsq m a b g c k).1, k)).2.2.1) k) < 0 := fun y => by
          have y := (neg_lt W P' hk).mp y
          exact ((gE_bare W p1 hk z hG k hk).mp y).2 rfl
        refine ⟨fun y => absurd y nb, fun _ => hrec _ _ ?_⟩
        rw [st k z]
        refine ⟨by rw [fb_ct_succ, decide_eq_true z]; exact nI_1 _, frF_tr G F', M', fun _ => ⟨b0, b1, b2, b3, b4, b5⟩, fun h => by cases h⟩
      · have z : ¬ (gsq m a b g c k).1 k = -1 := fun y => z ((neg_lt W p1 hk).mpr y)
        rw [sf k z]
        exact ⟨by rw [fb_ct_succ, decide_eq_false z]; rfl, G, Mk, J1, J0⟩
    · rintro rec _ ρ ⟨rfl, G, Mk, J1, J0⟩
      rw [Mk.2.1]
      refine ⟨fun _ => ⟨rfl, ?_⟩, fun h => absurd (nI_le (Nat.le_refl _) (by omega)) h⟩
      cases hz : (gsq m a b g c m).2.1 with
      | true =>
        obtain ⟨a0, a1, a2, a3, a4, a5⟩ := I1 hz
        obtain ⟨b0, b1, b2, b3, b4, b5⟩ := J1 hz
        exact ⟨n, m, a, b, _, kp, ls, kf, true, W, (ok m (Nat.le_refl _)).1, Mk, Nk, Kk, grow_rest Z F G a0 a1 a2 a3 a4 a5 b0 b1 b2 b3 b4 b5⟩
      | false =>
        obtain ⟨a0, a1⟩ := I0 hz
        obtain ⟨b0, b1⟩ := J0 hz
        obtain ⟨r1, r2, r3, r4⟩ := Z
        refine ⟨n, m, a, b, _, kp, ls, kf, gf, W, (ok m (Nat.le_refl _)).1, Mk, Nk, Kk, ?_, ?_, ?_, CI_fr r4 (F.1 7 (by simp)) (F.1 22 (by simp))⟩
        · rw [F.1 0 (by simp), F.1 31 (by simp), G.2.1 8 (by simp), G.1 5 (by simp) (by decide)]; exact r1
        · rw [a0, a1, b0, b1]; exact r2
        · rw [F.1 32 (by simp), G.1 4 (by simp) (by decide)]; exact r3
