/-! growing a line: all that is chosen -/
noncomputable def gC (m : Nat) (a b : Nat → Nat) (c : Nat → Int32) (x r d : Nat) : Nat → Bool := rch m a b (fun k => decide (c k = nI r) || decide (c k = nI d)) (fun k => inc a b k x)
/-- at middle x, for the bare line k0: size s, colours r and d, B lines turned, colours c' after the turn, place w -/
def GW (n m : Nat) (a b : Nat → Nat) (c : Nat → Int32) (x k0 s r d B : Nat) (c' : Nat → Int32) (w : Nat) : Prop :=
  Fsz m a b c x (far a b x k0) s ∧ s ≤ 8 ∧ (r ≤ Dg n m a b ∧ usd m a b c x (nI r) = false ∧ ∀ j, j < r → usd m a b c x (nI j) = true) ∧
  (d ≤ Dg n m a b ∧ usd m a b c (fsT m a b c x (far a b x k0) (s - 1)).1 (nI d) = false ∧ ∀ j, j < d → usd m a b c (fsT m a b c x (far a b x k0) (s - 1)).1 (nI j) = true) ∧
  ((usd m a b c x (nI d) = false ∧ c' = c ∧ B = 0) ∨ (usd m a b c x (nI d) = true ∧ c' = flp c (gC m a b c x r d) r d ∧ B = fb_ct (gC m a b c x r d) m)) ∧
  w < s ∧ Plc m a b c c' x (far a b x k0) d w ∧ ∀ i, i < w → usd m a b c' (fsT m a b c x (far a b x k0) i).1 (nI d) = true
section
variable {n m : Nat} {a b : Nat → Nat} {c : Nat → Int32} {x k0 : Nat}
theorem Fsz_ex (W : Wf n m a b) (hk0 : k0 < m) (hi0 : inc a b k0 x = true) : ∃ s, Fsz m a b c x (far a b x k0) s ∧ s ≤ 8 := by
  have hw0 := W.2.2.2.1 k0 hk0
  have hx : x < n := by rcases inc_iff.mp hi0 with z | z <;> omega
  obtain ⟨y1, y2, y3⟩ := far_ok W hk0 hi0
  rcases fst_ex (fun i => !decide (fln m a b c x (far a b x k0) i < m)) 8 with ⟨t, ht, t1, t0⟩ | h0
  · refine ⟨t + 1, ⟨by omega, fun j hj => ?_, ?_⟩, by omega⟩
    · have := t0 j (by omega)
      simpa using this
    · rw [Nat.add_sub_cancel]
      simpa using t1
  · have := (fan_inv (c := c) W hx y1 y2 8 (fun j hj => by simpa using h0 j hj)).2.2.2.2.2
    omega
/-- the first place of all -/
theorem Plc_first {c' : Nat → Int32} {y0 d : Nat} : ∀ {w : Nat}, Plc m a b c c' x y0 d w → ∃ v, v ≤ w ∧ Plc m a b c c' x y0 d v ∧ ∀ i, i < v → usd m a b c' (fsT m a b c x y0 i).1 (nI d) = true := by
  intro w h
  rcases fst_ex (fun i => !usd m a b c' (fsT m a b c x y0 i).1 (nI d)) (w + 1) with ⟨t, ht, t1, t0⟩ | h0
  · refine ⟨t, by omega, ⟨fun i hi => h.1 i (by omega), by simpa using t1⟩, fun i hi => by simpa using t0 i hi⟩
  · have := h0 w (by omega)
    rw [h.2] at this; cases this
theorem GW_ex (W : Wf n m a b) (P : Pr n m a b c) (hk0 : k0 < m) (hi0 : inc a b k0 x = true) (hc0 : c k0 = -1) : ∃ s r d B c' w, GW n m a b c x k0 s r d B c' w := by
  have hD := Dg_le8 W
  have hw0 := W.2.2.2.1 k0 hk0
  have hx : x < n := by rcases inc_iff.mp hi0 with z | z <;> omega
  obtain ⟨y1, y2, y3⟩ := far_ok W hk0 hi0
  obtain ⟨s, hs, hs8⟩ := Fsz_ex (c := c) W hk0 hi0
  have hs1 := hs.1
  have inv := fan_inv (c := c) W hx y1 y2 (s - 1) (fun j' hj' => hs.2.1 j' (by omega))
  obtain ⟨r, r1, r2, r3⟩ := free_ex (m := m) (a := a) (b := b) (c := c) hx hD
  obtain ⟨d, d1, d2, d3⟩ := free_ex (m := m) (a := a) (b := b) (c := c) inv.2.2.1 hD
  cases hu : usd m a b c x (nI d) with
  | false =>
    have h : Plc m a b c c x (far a b x k0) d (s - 1) := ⟨fun i hi => ⟨(fln_ok (hs.2.1 i (by omega))).2.1, (fln_ok (hs.2.1 i (by omega))).2.2.2⟩, d2⟩
    obtain ⟨v, v1, v2, v3⟩ := Plc_first h
    exact ⟨s, r, d, 0, c, v, hs, hs8, ⟨r1, r2, r3⟩, ⟨d1, d2, d3⟩, Or.inl ⟨hu, rfl, rfl⟩, by omega, v2, v3⟩
  | true =>
    obtain ⟨w, w1, w2⟩ := place_ex W P hk0 hi0 hc0 (show r < 9 by omega) (show d < 9 by omega) hs d2 hu r2
    obtain ⟨v, v1, v2, v3⟩ := Plc_first w2
    exact ⟨s, r, d, _, _, v, hs, hs8, ⟨r1, r2, r3⟩, ⟨d1, d2, d3⟩, Or.inr ⟨hu, rfl, rfl⟩, by omega, v2, v3⟩
/-- what follows from it -/
theorem GW_use (W : Wf n m a b) (P : Pr n m a b c) (hk0 : k0 < m) (hi0 : inc a b k0 x = true) (hc0 : c k0 = -1) {s r d B : Nat} {c' : Nat → Int32} {w : Nat} (G : GW n m a b c x k0 s r d B c' w) : Pr n m a b c' ∧ c' k0 = -1 ∧ usd m a b c' x (nI d) = false ∧ FanL m a b x s (fLn m a b c x k0) (fun i => (fsT m a b c x (far a b x k0) i).1) ∧ Pr n m a b (upd (shC (fLn m a b c x k0) c' w) (fLn m a b c x k0 w) (nI d)) := by
  have hD := Dg_le8 W
  obtain ⟨hs, hs8, ⟨r1, r2, r3⟩, ⟨d1, d2, d3⟩, hc, hw, hp, hf⟩ := G
  have H : FanL m a b x s (fLn m a b c x k0) (fun i => (fsT m a b c x (far a b x k0) i).1) := ⟨fun i hi => fLn_ok W hk0 hi0 hs hi, fun i j hi hj h => fan_inj hs hi hj h⟩
  have key : Pr n m a b c' ∧ c' k0 = -1 ∧ usd m a b c' x (nI d) = false := by
    rcases hc with ⟨h1, rfl, _⟩ | ⟨h1, rfl, _⟩
    · exact ⟨P, hc0, h1⟩
    · have hrd : r ≠ d := fun z => by rw [z, h1] at r2; cases r2
      have pool : ∀ k, k < m → gC m a b c x r d k = true → c k = nI r ∨ c k = nI d := fun k _ h => pool_or (rch_pool h)
      refine ⟨chain_flp P r1 d1 hrd hD, ?_, ?_⟩
      · have : gC m a b c x r d k0 = false := by
          cases z : gC m a b c x r d k0 with
          | false => rfl
          | true =>
            rcases pool k0 hk0 z with y | y
            · rw [hc0] at y; exact absurd y.symm (nI_ne_m1 (by omega))
            · rw [hc0] at y; exact absurd y.symm (nI_ne_m1 (by omega))
        show (if gC m a b c x r d k0 = true then _ else c k0) = -1
        rw [this]; exact hc0
      · rw [(usd_in (by omega) (by omega) hrd pool (fun k hk hi hp' => rch_start hk (by rcases hp' with z | z <;> simp [z]) hi)).2]
        exact r2
  exact ⟨key.1, key.2.1, key.2.2, H, sh_end W key.1 H hw key.2.1 (fun i hi => hp.1 i hi) d1 key.2.2 hp.2⟩
end
