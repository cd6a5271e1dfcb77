theorem jn_t {c A B : Prop} (h : ¬ c) (a : A) : (¬ c → A) ∧ (c → B) := ⟨fun _ => a, fun z => absurd z h⟩
theorem jn_f {c A B : Prop} (h : c) (b : B) : (¬ c → A) ∧ (c → B) := ⟨fun z => absurd h z, fun _ => b⟩
theorem j_ite {α : Type} {c : Prop} [Decidable c] {P : α → Prop} {a b : α} (h : P (if c then a else b)) : (c → P a) ∧ (¬ c → P b) := ⟨fun z => by rw [if_pos z] at h; exact h, fun z => by rw [if_neg z] at h; exact h⟩
theorem jn_ite {α : Type} {c : Prop} [Decidable c] {P : α → Prop} {a b : α} (h : P (if c then a else b)) : (¬ c → P b) ∧ (c → P a) := ⟨fun z => by rw [if_neg z] at h; exact h, fun z => by rw [if_pos z] at h; exact h⟩
theorem lf_1_0  {F : (Int32 → Prop) → Int32 → Prop} (m : Nat) (hm : m < 2 ^ 31) (I : Nat → Prop) {k0 : Nat} (hk : k0 ≤ m) (h0 : I k0) (hs : ∀ (rec : Int32 → Prop) (k : Nat) , k < m → I k → (I (k + 1) → rec (nI k + (1 : Int32))) → F rec (nI k)) (hx : ∀ (rec : Int32 → Prop) , I m → F rec (nI m)) : kk_lp1 F (nI k0) := by
  refine kk_lpI1 (fun x0 => ∃ k : Nat, k ≤ m ∧ x0 = nI k ∧ I k) (fun x0 => m - x0.toNatClampNeg) ?_ ⟨k0, hk, rfl, h0⟩
  intro rec x0 hI hrec
  obtain ⟨k, hkm, rfl, hI⟩ := hI
  by_cases hlt : k < m
  · refine hs rec k  hlt hI (fun h => ?_)
    refine hrec (nI k + (1 : Int32)) ⟨k + 1, hlt, nI_1 k, h⟩ ?_
    rw [nI_1 k, nI_clamp (by omega), nI_clamp (by omega)]
    omega
  · obtain rfl : k = m := by omega
    exact hx rec  hI
theorem lf_2_0 {α1 : Type} {F : (Int32 → α1 → Prop) → Int32 → α1 → Prop} (m : Nat) (hm : m < 2 ^ 31) (I : Nat → α1 → Prop) {k0 : Nat} (hk : k0 ≤ m) {x1 : α1} (h0 : I k0 x1) (hs : ∀ (rec : Int32 → α1 → Prop) (k : Nat) (x1 : α1), k < m → I k x1 → (∀ (x1' : α1), I (k + 1) x1' → rec (nI k + (1 : Int32)) x1') → F rec (nI k) x1) (hx : ∀ (rec : Int32 → α1 → Prop) (x1 : α1), I m x1 → F rec (nI m) x1) : kk_lp2 F (nI k0) x1 := by
  refine kk_lpI2 (fun x0 x1 => ∃ k : Nat, k ≤ m ∧ x0 = nI k ∧ I k x1) (fun x0 x1 => m - x0.toNatClampNeg) ?_ ⟨k0, hk, rfl, h0⟩
  intro rec x0 x1 hI hrec
  obtain ⟨k, hkm, rfl, hI⟩ := hI
  by_cases hlt : k < m
  · refine hs rec k x1 hlt hI (fun x1' h => ?_)
    refine hrec (nI k + (1 : Int32)) x1' ⟨k + 1, hlt, nI_1 k, h⟩ ?_
    rw [nI_1 k, nI_clamp (by omega), nI_clamp (by omega)]
    omega
  · obtain rfl : k = m := by omega
    exact hx rec x1 hI
theorem lf_2_1 {α0 : Type} {F : (α0 → Int32 → Prop) → α0 → Int32 → Prop} (m : Nat) (hm : m < 2 ^ 31) (I : Nat → α0 → Prop) {k0 : Nat} (hk : k0 ≤ m) {x0 : α0} (h0 : I k0 x0) (hs : ∀ (rec : α0 → Int32 → Prop) (k : Nat) (x0 : α0), k < m → I k x0 → (∀ (x0' : α0), I (k + 1) x0' → rec x0' (nI k + (1 : Int32))) → F rec x0 (nI k)) (hx : ∀ (rec : α0 → Int32 → Prop) (x0 : α0), I m x0 → F rec x0 (nI m)) : kk_lp2 F x0 (nI k0) := by
  refine kk_lpI2 (fun x0 x1 => ∃ k : Nat, k ≤ m ∧ x1 = nI k ∧ I k x0) (fun x0 x1 => m - x1.toNatClampNeg) ?_ ⟨k0, hk, rfl, h0⟩
  intro rec x0 x1 hI hrec
  obtain ⟨k, hkm, rfl, hI⟩ := hI
  by_cases hlt : k < m
  · refine hs rec k x0 hlt hI (fun x0' h => ?_)
    refine hrec x0' (nI k + (1 : Int32)) ⟨k + 1, hlt, nI_1 k, h⟩ ?_
    rw [nI_1 k, nI_clamp (by omega), nI_clamp (by omega)]
    omega
  · obtain rfl : k = m := by omega
    exact hx rec x0 hI
theorem lf_3_0 {α1 : Type} {α2 : Type} {F : (Int32 → α1 → α2 → Prop) → Int32 → α1 → α2 → Prop} (m : Nat) (hm : m < 2 ^ 31) (I : Nat → α1 → α2 → Prop) {k0 : Nat} (hk : k0 ≤ m) {x1 : α1} {x2 : α2} (h0 : I k0 x1 x2) (hs : ∀ (rec : Int32 → α1 → α2 → Prop) (k : Nat) (x1 : α1) (x2 : α2), k < m → I k x1 x2 → (∀ (x1' : α1) (x2' : α2), I (k + 1) x1' x2' → rec (nI k + (1 : Int32)) x1' x2') → F rec (nI k) x1 x2) (hx : ∀ (rec : Int32 → α1 → α2 → Prop) (x1 : α1) (x2 : α2), I m x1 x2 → F rec (nI m) x1 x2) : kk_lp3 F (nI k0) x1 x2 := by
  refine kk_lpI3 (fun x0 x1 x2 => ∃ k : Nat, k ≤ m ∧ x0 = nI k ∧ I k x1 x2) (fun x0 x1 x2 => m - x0.toNatClampNeg) ?_ ⟨k0, hk, rfl, h0⟩
  intro rec x0 x1 x2 hI hrec
  obtain ⟨k, hkm, rfl, hI⟩ := hI
  by_cases hlt : k < m
  · refine hs rec k x1 x2 hlt hI (fun x1' x2' h => ?_)
    refine hrec (nI k + (1 : Int32)) x1' x2' ⟨k + 1, hlt, nI_1 k, h⟩ ?_
    rw [nI_1 k, nI_clamp (by omega), nI_clamp (by omega)]
    omega
  · obtain rfl : k = m := by omega
    exact hx rec x1 x2 hI
theorem lf_3_1 {α0 : Type} {α2 : Type} {F : (α0 → Int32 → α2 → Prop) → α0 → Int32 → α2 → Prop} (m : Nat) (hm : m < 2 ^ 31) (I : Nat → α0 → α2 → Prop) {k0 : Nat} (hk : k0 ≤ m) {x0 : α0} {x2 : α2} (h0 : I k0 x0 x2) (hs : ∀ (rec : α0 → Int32 → α2 → Prop) (k : Nat) (x0 : α0) (x2 : α2), k < m → I k x0 x2 → (∀ (x0' : α0) (x2' : α2), I (k + 1) x0' x2' → rec x0' (nI k + (1 : Int32)) x2') → F rec x0 (nI k) x2) (hx : ∀ (rec : α0 → Int32 → α2 → Prop) (x0 : α0) (x2 : α2), I m x0 x2 → F rec x0 (nI m) x2) : kk_lp3 F x0 (nI k0) x2 := by
  refine kk_lpI3 (fun x0 x1 x2 => ∃ k : Nat, k ≤ m ∧ x1 = nI k ∧ I k x0 x2) (fun x0 x1 x2 => m - x1.toNatClampNeg) ?_ ⟨k0, hk, rfl, h0⟩
  intro rec x0 x1 x2 hI hrec
  obtain ⟨k, hkm, rfl, hI⟩ := hI
  by_cases hlt : k < m
  · refine hs rec k x0 x2 hlt hI (fun x0' x2' h => ?_)
    refine hrec x0' (nI k + (1 : Int32)) x2' ⟨k + 1, hlt, nI_1 k, h⟩ ?_
    rw [nI_1 k, nI_clamp (by omega), nI_clamp (by omega)]
    omega
  · obtain rfl : k = m := by omega
    exact hx rec x0 x2 hI
theorem lf_3_2 {α0 : Type} {α1 : Type} {F : (α0 → α1 → Int32 → Prop) → α0 → α1 → Int32 → Prop} (m : Nat) (hm : m < 2 ^ 31) (I : Nat → α0 → α1 → Prop) {k0 : Nat} (hk : k0 ≤ m) {x0 : α0} {x1 : α1} (h0 : I k0 x0 x1) (hs : ∀ (rec : α0 → α1 → Int32 → Prop) (k : Nat) (x0 : α0) (x1 : α1), k < m → I k x0 x1 → (∀ (x0' : α0) (x1' : α1), I (k + 1) x0' x1' → rec x0' x1' (nI k + (1 : Int32))) → F rec x0 x1 (nI k)) (hx : ∀ (rec : α0 → α1 → Int32 → Prop) (x0 : α0) (x1 : α1), I m x0 x1 → F rec x0 x1 (nI m)) : kk_lp3 F x0 x1 (nI k0) := by
  refine kk_lpI3 (fun x0 x1 x2 => ∃ k : Nat, k ≤ m ∧ x2 = nI k ∧ I k x0 x1) (fun x0 x1 x2 => m - x2.toNatClampNeg) ?_ ⟨k0, hk, rfl, h0⟩
  intro rec x0 x1 x2 hI hrec
  obtain ⟨k, hkm, rfl, hI⟩ := hI
  by_cases hlt : k < m
  · refine hs rec k x0 x1 hlt hI (fun x0' x1' h => ?_)
    refine hrec x0' x1' (nI k + (1 : Int32)) ⟨k + 1, hlt, nI_1 k, h⟩ ?_
    rw [nI_1 k, nI_clamp (by omega), nI_clamp (by omega)]
    omega
  · obtain rfl : k = m := by omega
    exact hx rec x0 x1 hI
theorem lf_4_0 {α1 : Type} {α2 : Type} {α3 : Type} {F : (Int32 → α1 → α2 → α3 → Prop) → Int32 → α1 → α2 → α3 → Prop} (m : Nat) (hm : m < 2 ^ 31) (I : Nat → α1 → α2 → α3 → Prop) {k0 : Nat} (hk : k0 ≤ m) {x1 : α1} {x2 : α2} {x3 : α3} (h0 : I k0 x1 x2 x3) (hs : ∀ (rec : Int32 → α1 → α2 → α3 → Prop) (k : Nat) (x1 : α1) (x2 : α2) (x3 : α3), k < m → I k x1 x2 x3 → (∀ (x1' : α1) (x2' : α2) (x3' : α3), I (k + 1) x1' x2' x3' → rec (nI k + (1 : Int32)) x1' x2' x3') → F rec (nI k) x1 x2 x3) (hx : ∀ (rec : Int32 → α1 → α2 → α3 → Prop) (x1 : α1) (x2 : α2) (x3 : α3), I m x1 x2 x3 → F rec (nI m) x1 x2 x3) : kk_lp4 F (nI k0) x1 x2 x3 := by
  refine kk_lpI4 (fun x0 x1 x2 x3 => ∃ k : Nat, k ≤ m ∧ x0 = nI k ∧ I k x1 x2 x3) (fun x0 x1 x2 x3 => m - x0.toNatClampNeg) ?_ ⟨k0, hk, rfl, h0⟩
  intro rec x0 x1 x2 x3 hI hrec
  obtain ⟨k, hkm, rfl, hI⟩ := hI
  by_cases hlt : k < m
  · refine hs rec k x1 x2 x3 hlt hI (fun x1' x2' x3' h => ?_)
    refine hrec (nI k + (1 : Int32)) x1' x2' x3' ⟨k + 1, hlt, nI_1 k, h⟩ ?_
    rw [nI_1 k, nI_clamp (by omega), nI_clamp (by omega)]
    omega
  · obtain rfl : k = m := by omega
    exact hx rec x1 x2 x3 hI
theorem lf_4_1 {α0 : Type} {α2 : Type} {α3 : Type} {F : (α0 → Int32 → α2 → α3 → Prop) → α0 → Int32 → α2 → α3 → Prop} (m : Nat) (hm : m < 2 ^ 31) (I : Nat → α0 → α2 → α3 → Prop) {k0 : Nat} (hk : k0 ≤ m) {x0 : α0} {x2 : α2} {x3 : α3} (h0 : I k0 x0 x2 x3) (hs : ∀ (rec : α0 → Int32 → α2 → α3 → Prop) (k : Nat) (x0 : α0) (x2 : α2) (x3 : α3), k < m → I k x0 x2 x3 → (∀ (x0' : α0) (x2' : α2) (x3' : α3), I (k + 1) x0' x2' x3' → rec x0' (nI k + (1 : Int32)) x2' x3') → F rec x0 (nI k) x2 x3) (hx : ∀ (rec : α0 → Int32 → α2 → α3 → Prop) (x0 : α0) (x2 : α2) (x3 : α3), I m x0 x2 x3 → F rec x0 (nI m) x2 x3) : kk_lp4 F x0 (nI k0) x2 x3 := by
  refine kk_lpI4 (fun x0 x1 x2 x3 => ∃ k : Nat, k ≤ m ∧ x1 = nI k ∧ I k x0 x2 x3) (fun x0 x1 x2 x3 => m - x1.toNatClampNeg) ?_ ⟨k0, hk, rfl, h0⟩
  intro rec x0 x1 x2 x3 hI hrec
  obtain ⟨k, hkm, rfl, hI⟩ := hI
  by_cases hlt : k < m
  · refine hs rec k x0 x2 x3 hlt hI (fun x0' x2' x3' h => ?_)
    refine hrec x0' (nI k + (1 : Int32)) x2' x3' ⟨k + 1, hlt, nI_1 k, h⟩ ?_
    rw [nI_1 k, nI_clamp (by omega), nI_clamp (by omega)]
    omega
  · obtain rfl : k = m := by omega
    exact hx rec x0 x2 x3 hI
theorem lf_4_2 {α0 : Type} {α1 : Type} {α3 : Type} {F : (α0 → α1 → Int32 → α3 → Prop) → α0 → α1 → Int32 → α3 → Prop} (m : Nat) (hm : m < 2 ^ 31) (I : Nat → α0 → α1 → α3 → Prop) {k0 : Nat} (hk : k0 ≤ m) {x0 : α0} {x1 : α1} {x3 : α3} (h0 : I k0 x0 x1 x3) (hs : ∀ (rec : α0 → α1 → Int32 → α3 → Prop) (k : Nat) (x0 : α0) (x1 : α1) (x3 : α3), k < m → I k x0 x1 x3 → (∀ (x0' : α0) (x1' : α1) (x3' : α3), I (k + 1) x0' x1' x3' → rec x0' x1' (nI k + (1 : Int32)) x3') → F rec x0 x1 (nI k) x3) (hx : ∀ (rec : α0 → α1 → Int32 → α3 → Prop) (x0 : α0) (x1 : α1) (x3 : α3), I m x0 x1 x3 → F rec x0 x1 (nI m) x3) : kk_lp4 F x0 x1 (nI k0) x3 := by
  refine kk_lpI4 (fun x0 x1 x2 x3 => ∃ k : Nat, k ≤ m ∧ x2 = nI k ∧ I k x0 x1 x3) (fun x0 x1 x2 x3 => m - x2.toNatClampNeg) ?_ ⟨k0, hk, rfl, h0⟩
  intro rec x0 x1 x2 x3 hI hrec
  obtain ⟨k, hkm, rfl, hI⟩ := hI
  by_cases hlt : k < m
  · refine hs rec k x0 x1 x3 hlt hI (fun x0' x1' x3' h => ?_)
    refine hrec x0' x1' (nI k + (1 : Int32)) x3' ⟨k + 1, hlt, nI_1 k, h⟩ ?_
    rw [nI_1 k, nI_clamp (by omega), nI_clamp (by omega)]
    omega
  · obtain rfl : k = m := by omega
    exact hx rec x0 x1 x3 hI
theorem lf_4_3 {α0 : Type} {α1 : Type} {α2 : Type} {F : (α0 → α1 → α2 → Int32 → Prop) → α0 → α1 → α2 → Int32 → Prop} (m : Nat) (hm : m < 2 ^ 31) (I : Nat → α0 → α1 → α2 → Prop) {k0 : Nat} (hk : k0 ≤ m) {x0 : α0} {x1 : α1} {x2 : α2} (h0 : I k0 x0 x1 x2) (hs : ∀ (rec : α0 → α1 → α2 → Int32 → Prop) (k : Nat) (x0 : α0) (x1 : α1) (x2 : α2), k < m → I k x0 x1 x2 → (∀ (x0' : α0) (x1' : α1) (x2' : α2), I (k + 1) x0' x1' x2' → rec x0' x1' x2' (nI k + (1 : Int32))) → F rec x0 x1 x2 (nI k)) (hx : ∀ (rec : α0 → α1 → α2 → Int32 → Prop) (x0 : α0) (x1 : α1) (x2 : α2), I m x0 x1 x2 → F rec x0 x1 x2 (nI m)) : kk_lp4 F x0 x1 x2 (nI k0) := by
  refine kk_lpI4 (fun x0 x1 x2 x3 => ∃ k : Nat, k ≤ m ∧ x3 = nI k ∧ I k x0 x1 x2) (fun x0 x1 x2 x3 => m - x3.toNatClampNeg) ?_ ⟨k0, hk, rfl, h0⟩
  intro rec x0 x1 x2 x3 hI hrec
  obtain ⟨k, hkm, rfl, hI⟩ := hI
  by_cases hlt : k < m
  · refine hs rec k x0 x1 x2 hlt hI (fun x0' x1' x2' h => ?_)
    refine hrec x0' x1' x2' (nI k + (1 : Int32)) ⟨k + 1, hlt, nI_1 k, h⟩ ?_
    rw [nI_1 k, nI_clamp (by omega), nI_clamp (by omega)]
    omega
  · obtain rfl : k = m := by omega
    exact hx rec x0 x1 x2 hI
theorem lf_5_0 {α1 : Type} {α2 : Type} {α3 : Type} {α4 : Type} {F : (Int32 → α1 → α2 → α3 → α4 → Prop) → Int32 → α1 → α2 → α3 → α4 → Prop} (m : Nat) (hm : m < 2 ^ 31) (I : Nat → α1 → α2 → α3 → α4 → Prop) {k0 : Nat} (hk : k0 ≤ m) {x1 : α1} {x2 : α2} {x3 : α3} {x4 : α4} (h0 : I k0 x1 x2 x3 x4) (hs : ∀ (rec : Int32 → α1 → α2 → α3 → α4 → Prop) (k : Nat) (x1 : α1) (x2 : α2) (x3 : α3) (x4 : α4), k < m → I k x1 x2 x3 x4 → (∀ (x1' : α1) (x2' : α2) (x3' : α3) (x4' : α4), I (k + 1) x1' x2' x3' x4' → rec (nI k + (1 : Int32)) x1' x2' x3' x4') → F rec (nI k) x1 x2 x3 x4) (hx : ∀ (rec : Int32 → α1 → α2 → α3 → α4 → Prop) (x1 : α1) (x2 : α2) (x3 : α3) (x4 : α4), I m x1 x2 x3 x4 → F rec (nI m) x1 x2 x3 x4) : kk_lp5 F (nI k0) x1 x2 x3 x4 := by
  refine kk_lpI5 (fun x0 x1 x2 x3 x4 => ∃ k : Nat, k ≤ m ∧ x0 = nI k ∧ I k x1 x2 x3 x4) (fun x0 x1 x2 x3 x4 => m - x0.toNatClampNeg) ?_ ⟨k0, hk, rfl, h0⟩
  intro rec x0 x1 x2 x3 x4 hI hrec
  obtain ⟨k, hkm, rfl, hI⟩ := hI
  by_cases hlt : k < m
  · refine hs rec k x1 x2 x3 x4 hlt hI (fun x1' x2' x3' x4' h => ?_)
    refine hrec (nI k + (1 : Int32)) x1' x2' x3' x4' ⟨k + 1, hlt, nI_1 k, h⟩ ?_
    rw [nI_1 k, nI_clamp (by omega), nI_clamp (by omega)]
    omega
  · obtain rfl : k = m := by omega
    exact hx rec x1 x2 x3 x4 hI
theorem lf_5_1 {α0 : Type} {α2 : Type} {α3 : Type} {α4 : Type} {F : (α0 → Int32 → α2 → α3 → α4 → Prop) → α0 → Int32 → α2 → α3 → α4 → Prop} (m : Nat) (hm : m < 2 ^ 31) (I : Nat → α0 → α2 → α3 → α4 → Prop) {k0 : Nat} (hk : k0 ≤ m) {x0 : α0} {x2 : α2} {x3 : α3} {x4 : α4} (h0 : I k0 x0 x2 x3 x4) (hs : ∀ (rec : α0 → Int32 → α2 → α3 → α4 → Prop) (k : Nat) (x0 : α0) (x2 : α2) (x3 : α3) (x4 : α4), k < m → I k x0 x2 x3 x4 → (∀ (x0' : α0) (x2' : α2) (x3' : α3) (x4' : α4), I (k + 1) x0' x2' x3' x4' → rec x0' (nI k + (1 : Int32)) x2' x3' x4') → F rec x0 (nI k) x2 x3 x4) (hx : ∀ (rec : α0 → Int32 → α2 → α3 → α4 → Prop) (x0 : α0) (x2 : α2) (x3 : α3) (x4 : α4), I m x0 x2 x3 x4 → F rec x0 (nI m) x2 x3 x4) : kk_lp5 F x0 (nI k0) x2 x3 x4 := by
  refine kk_lpI5 (fun x0 x1 x2 x3 x4 => ∃ k : Nat, k ≤ m ∧ x1 = nI k ∧ I k x0 x2 x3 x4) (fun x0 x1 x2 x3 x4 => m - x1.toNatClampNeg) ?_ ⟨k0, hk, rfl, h0⟩
  intro rec x0 x1 x2 x3 x4 hI hrec
  obtain ⟨k, hkm, rfl, hI⟩ := hI
  by_cases hlt : k < m
  · refine hs rec k x0 x2 x3 x4 hlt hI (fun x0' x2' x3' x4' h => ?_)
    refine hrec x0' (nI k + (1 : Int32)) x2' x3' x4' ⟨k + 1, hlt, nI_1 k, h⟩ ?_
    rw [nI_1 k, nI_clamp (by omega), nI_clamp (by omega)]
    omega
  · obtain rfl : k = m := by omega
    exact hx rec x0 x2 x3 x4 hI
theorem lf_5_2 {α0 : Type} {α1 : Type} {α3 : Type} {α4 : Type} {F : (α0 → α1 → Int32 → α3 → α4 → Prop) → α0 → α1 → Int32 → α3 → α4 → Prop} (m : Nat) (hm : m < 2 ^ 31) (I : Nat → α0 → α1 → α3 → α4 → Prop) {k0 : Nat} (hk : k0 ≤ m) {x0 : α0} {x1 : α1} {x3 : α3} {x4 : α4} (h0 : I k0 x0 x1 x3 x4) (hs : ∀ (rec : α0 → α1 → Int32 → α3 → α4 → Prop) (k : Nat) (x0 : α0) (x1 : α1) (x3 : α3) (x4 : α4), k < m → I k x0 x1 x3 x4 → (∀ (x0' : α0) (x1' : α1) (x3' : α3) (x4' : α4), I (k + 1) x0' x1' x3' x4' → rec x0' x1' (nI k + (1 : Int32)) x3' x4') → F rec x0 x1 (nI k) x3 x4) (hx : ∀ (rec : α0 → α1 → Int32 → α3 → α4 → Prop) (x0 : α0) (x1 : α1) (x3 : α3) (x4 : α4), I m x0 x1 x3 x4 → F rec x0 x1 (nI m) x3 x4) : kk_lp5 F x0 x1 (nI k0) x3 x4 := by
  refine kk_lpI5 (fun x0 x1 x2 x3 x4 => ∃ k : Nat, k ≤ m ∧ x2 = nI k ∧ I k x0 x1 x3 x4) (fun x0 x1 x2 x3 x4 => m - x2.toNatClampNeg) ?_ ⟨k0, hk, rfl, h0⟩
  intro rec x0 x1 x2 x3 x4 hI hrec
  obtain ⟨k, hkm, rfl, hI⟩ := hI
  by_cases hlt : k < m
  · refine hs rec k x0 x1 x3 x4 hlt hI (fun x0' x1' x3' x4' h => ?_)
    refine hrec x0' x1' (nI k + (1 : Int32)) x3' x4' ⟨k + 1, hlt, nI_1 k, h⟩ ?_
    rw [nI_1 k, nI_clamp (by omega), nI_clamp (by omega)]
    omega
  · obtain rfl : k = m := by omega
    exact hx rec x0 x1 x3 x4 hI
theorem lf_5_3 {α0 : Type} {α1 : Type} {α2 : Type} {α4 : Type} {F : (α0 → α1 → α2 → Int32 → α4 → Prop) → α0 → α1 → α2 → Int32 → α4 → Prop} (m : Nat) (hm : m < 2 ^ 31) (I : Nat → α0 → α1 → α2 → α4 → Prop) {k0 : Nat} (hk : k0 ≤ m) {x0 : α0} {x1 : α1} {x2 : α2} {x4 : α4} (h0 : I k0 x0 x1 x2 x4) (hs : ∀ (rec : α0 → α1 → α2 → Int32 → α4 → Prop) (k : Nat) (x0 : α0) (x1 : α1) (x2 : α2) (x4 : α4), k < m → I k x0 x1 x2 x4 → (∀ (x0' : α0) (x1' : α1) (x2' : α2) (x4' : α4), I (k + 1) x0' x1' x2' x4' → rec x0' x1' x2' (nI k + (1 : Int32)) x4') → F rec x0 x1 x2 (nI k) x4) (hx : ∀ (rec : α0 → α1 → α2 → Int32 → α4 → Prop) (x0 : α0) (x1 : α1) (x2 : α2) (x4 : α4), I m x0 x1 x2 x4 → F rec x0 x1 x2 (nI m) x4) : kk_lp5 F x0 x1 x2 (nI k0) x4 := by
  refine kk_lpI5 (fun x0 x1 x2 x3 x4 => ∃ k : Nat, k ≤ m ∧ x3 = nI k ∧ I k x0 x1 x2 x4) (fun x0 x1 x2 x3 x4 => m - x3.toNatClampNeg) ?_ ⟨k0, hk, rfl, h0⟩
  intro rec x0 x1 x2 x3 x4 hI hrec
  obtain ⟨k, hkm, rfl, hI⟩ := hI
  by_cases hlt : k < m
  · refine hs rec k x0 x1 x2 x4 hlt hI (fun x0' x1' x2' x4' h => ?_)
    refine hrec x0' x1' x2' (nI k + (1 : Int32)) x4' ⟨k + 1, hlt, nI_1 k, h⟩ ?_
    rw [nI_1 k, nI_clamp (by omega), nI_clamp (by omega)]
    omega
  · obtain rfl : k = m := by omega
    exact hx rec x0 x1 x2 x4 hI
theorem lf_5_4 {α0 : Type} {α1 : Type} {α2 : Type} {α3 : Type} {F : (α0 → α1 → α2 → α3 → Int32 → Prop) → α0 → α1 → α2 → α3 → Int32 → Prop} (m : Nat) (hm : m < 2 ^ 31) (I : Nat → α0 → α1 → α2 → α3 → Prop) {k0 : Nat} (hk : k0 ≤ m) {x0 : α0} {x1 : α1} {x2 : α2} {x3 : α3} (h0 : I k0 x0 x1 x2 x3) (hs : ∀ (rec : α0 → α1 → α2 → α3 → Int32 → Prop) (k : Nat) (x0 : α0) (x1 : α1) (x2 : α2) (x3 : α3), k < m → I k x0 x1 x2 x3 → (∀ (x0' : α0) (x1' : α1) (x2' : α2) (x3' : α3), I (k + 1) x0' x1' x2' x3' → rec x0' x1' x2' x3' (nI k + (1 : Int32))) → F rec x0 x1 x2 x3 (nI k)) (hx : ∀ (rec : α0 → α1 → α2 → α3 → Int32 → Prop) (x0 : α0) (x1 : α1) (x2 : α2) (x3 : α3), I m x0 x1 x2 x3 → F rec x0 x1 x2 x3 (nI m)) : kk_lp5 F x0 x1 x2 x3 (nI k0) := by
  refine kk_lpI5 (fun x0 x1 x2 x3 x4 => ∃ k : Nat, k ≤ m ∧ x4 = nI k ∧ I k x0 x1 x2 x3) (fun x0 x1 x2 x3 x4 => m - x4.toNatClampNeg) ?_ ⟨k0, hk, rfl, h0⟩
  intro rec x0 x1 x2 x3 x4 hI hrec
  obtain ⟨k, hkm, rfl, hI⟩ := hI
  by_cases hlt : k < m
  · refine hs rec k x0 x1 x2 x3 hlt hI (fun x0' x1' x2' x3' h => ?_)
    refine hrec x0' x1' x2' x3' (nI k + (1 : Int32)) ⟨k + 1, hlt, nI_1 k, h⟩ ?_
    rw [nI_1 k, nI_clamp (by omega), nI_clamp (by omega)]
    omega
  · obtain rfl : k = m := by omega
    exact hx rec x0 x1 x2 x3 hI
theorem lf_6_0 {α1 : Type} {α2 : Type} {α3 : Type} {α4 : Type} {α5 : Type} {F : (Int32 → α1 → α2 → α3 → α4 → α5 → Prop) → Int32 → α1 → α2 → α3 → α4 → α5 → Prop} (m : Nat) (hm : m < 2 ^ 31) (I : Nat → α1 → α2 → α3 → α4 → α5 → Prop) {k0 : Nat} (hk : k0 ≤ m) {x1 : α1} {x2 : α2} {x3 : α3} {x4 : α4} {x5 : α5} (h0 : I k0 x1 x2 x3 x4 x5) (hs : ∀ (rec : Int32 → α1 → α2 → α3 → α4 → α5 → Prop) (k : Nat) (x1 : α1) (x2 : α2) (x3 : α3) (x4 : α4) (x5 : α5), k < m → I k x1 x2 x3 x4 x5 → (∀ (x1' : α1) (x2' : α2) (x3' : α3) (x4' : α4) (x5' : α5), I (k + 1) x1' x2' x3' x4' x5' → rec (nI k + (1 : Int32)) x1' x2' x3' x4' x5') → F rec (nI k) x1 x2 x3 x4 x5) (hx : ∀ (rec : Int32 → α1 → α2 → α3 → α4 → α5 → Prop) (x1 : α1) (x2 : α2) (x3 : α3) (x4 : α4) (x5 : α5), I m x1 x2 x3 x4 x5 → F rec (nI m) x1 x2 x3 x4 x5) : kk_lp6 F (nI k0) x1 x2 x3 x4 x5 := by
  refine kk_lpI6 (fun x0 x1 x2 x3 x4 x5 => ∃ k : Nat, k ≤ m ∧ x0 = nI k ∧ I k x1 x2 x3 x4 x5) (fun x0 x1 x2 x3 x4 x5 => m - x0.toNatClampNeg) ?_ ⟨k0, hk, rfl, h0⟩
  intro rec x0 x1 x2 x3 x4 x5 hI hrec
  obtain ⟨k, hkm, rfl, hI⟩ := hI
  by_cases hlt : k < m
  · refine hs rec k x1 x2 x3 x4 x5 hlt hI (fun x1' x2' x3' x4' x5' h => ?_)
    refine hrec (nI k + (1 : Int32)) x1' x2' x3' x4' x5' ⟨k + 1, hlt, nI_1 k, h⟩ ?_
    rw [nI_1 k, nI_clamp (by omega), nI_clamp (by omega)]
    omega
  · obtain rfl : k = m := by omega
    exact hx rec x1 x2 x3 x4 x5 hI
theorem lf_6_1 {α0 : Type} {α2 : Type} {α3 : Type} {α4 : Type} {α5 : Type} {F : (α0 → Int32 → α2 → α3 → α4 → α5 → Prop) → α0 → Int32 → α2 → α3 → α4 → α5 → Prop} (m : Nat) (hm : m < 2 ^ 31) (I : Nat → α0 → α2 → α3 → α4 → α5 → Prop) {k0 : Nat} (hk : k0 ≤ m) {x0 : α0} {x2 : α2} {x3 : α3} {x4 : α4} {x5 : α5} (h0 : I k0 x0 x2 x3 x4 x5) (hs : ∀ (rec : α0 → Int32 → α2 → α3 → α4 → α5 → Prop) (k : Nat) (x0 : α0) (x2 : α2) (x3 : α3) (x4 : α4) (x5 : α5), k < m → I k x0 x2 x3 x4 x5 → (∀ (x0' : α0) (x2' : α2) (x3' : α3) (x4' : α4) (x5' : α5), I (k + 1) x0' x2' x3' x4' x5' → rec x0' (nI k + (1 : Int32)) x2' x3' x4' x5') → F rec x0 (nI k) x2 x3 x4 x5) (hx : ∀ (rec : α0 → Int32 → α2 → α3 → α4 → α5 → Prop) (x0 : α0) (x2 : α2) (x3 : α3) (x4 : α4) (x5 : α5), I m x0 x2 x3 x4 x5 → F rec x0 (nI m) x2 x3 x4 x5) : kk_lp6 F x0 (nI k0) x2 x3 x4 x5 := by
  refine kk_lpI6 (fun x0 x1 x2 x3 x4 x5 => ∃ k : Nat, k ≤ m ∧ x1 = nI k ∧ I k x0 x2 x3 x4 x5) (fun x0 x1 x2 x3 x4 x5 => m - x1.toNatClampNeg) ?_ ⟨k0, hk, rfl, h0⟩
  intro rec x0 x1 x2 x3 x4 x5 hI hrec
  obtain ⟨k, hkm, rfl, hI⟩ := hI
  by_cases hlt : k < m
  · refine hs rec k x0 x2 x3 x4 x5 hlt hI (fun x0' x2' x3' x4' x5' h => ?_)
    refine hrec x0' (nI k + (1 : Int32)) x2' x3' x4' x5' ⟨k + 1, hlt, nI_1 k, h⟩ ?_
    rw [nI_1 k, nI_clamp (by omega), nI_clamp (by omega)]
    omega
  · obtain rfl : k = m := by omega
    exact hx rec x0 x2 x3 x4 x5 hI
theorem lf_6_2 {α0 : Type} {α1 : Type} {α3 : Type} {α4 : Type} {α5 : Type} {F : (α0 → α1 → Int32 → α3 → α4 → α5 → Prop) → α0 → α1 → Int32 → α3 → α4 → α5 → Prop} (m : Nat) (hm : m < 2 ^ 31) (I : Nat → α0 → α1 → α3 → α4 → α5 → Prop) {k0 : Nat} (hk : k0 ≤ m) {x0 : α0} {x1 : α1} {x3 : α3} {x4 : α4} {x5 : α5} (h0 : I k0 x0 x1 x3 x4 x5) (hs : ∀ (rec : α0 → α1 → Int32 → α3 → α4 → α5 → Prop) (k : Nat) (x0 : α0) (x1 : α1) (x3 : α3) (x4 : α4) (x5 : α5), k < m → I k x0 x1 x3 x4 x5 → (∀ (x0' : α0) (x1' : α1) (x3' : α3) (x4' : α4) (x5' : α5), I (k + 1) x0' x1' x3' x4' x5' → rec x0' x1' (nI k + (1 : Int32)) x3' x4' x5') → F rec x0 x1 (nI k) x3 x4 x5) (hx : ∀ (rec : α0 → α1 → Int32 → α3 → α4 → α5 → Prop) (x0 : α0) (x1 : α1) (x3 : α3) (x4 : α4) (x5 : α5), I m x0 x1 x3 x4 x5 → F rec x0 x1 (nI m) x3 x4 x5) : kk_lp6 F x0 x1 (nI k0) x3 x4 x5 := by
  refine kk_lpI6 (fun x0 x1 x2 x3 x4 x5 => ∃ k : Nat, k ≤ m ∧ x2 = nI k ∧ I k x0 x1 x3 x4 x5) (fun x0 x1 x2 x3 x4 x5 => m - x2.toNatClampNeg) ?_ ⟨k0, hk, rfl, h0⟩
  intro rec x0 x1 x2 x3 x4 x5 hI hrec
  obtain ⟨k, hkm, rfl, hI⟩ := hI
  by_cases hlt : k < m
  · refine hs rec k x0 x1 x3 x4 x5 hlt hI (fun x0' x1' x3' x4' x5' h => ?_)
    refine hrec x0' x1' (nI k + (1 : Int32)) x3' x4' x5' ⟨k + 1, hlt, nI_1 k, h⟩ ?_
    rw [nI_1 k, nI_clamp (by omega), nI_clamp (by omega)]
    omega
  · obtain rfl : k = m := by omega
    exact hx rec x0 x1 x3 x4 x5 hI
theorem lf_6_3 {α0 : Type} {α1 : Type} {α2 : Type} {α4 : Type} {α5 : Type} {F : (α0 → α1 → α2 → Int32 → α4 → α5 → Prop) → α0 → α1 → α2 → Int32 → α4 → α5 → Prop} (m : Nat) (hm : m < 2 ^ 31) (I : Nat → α0 → α1 → α2 → α4 → α5 → Prop) {k0 : Nat} (hk : k0 ≤ m) {x0 : α0} {x1 : α1} {x2 : α2} {x4 : α4} {x5 : α5} (h0 : I k0 x0 x1 x2 x4 x5) (hs : ∀ (rec : α0 → α1 → α2 → Int32 → α4 → α5 → Prop) (k : Nat) (x0 : α0) (x1 : α1) (x2 : α2) (x4 : α4) (x5 : α5), k < m → I k x0 x1 x2 x4 x5 → (∀ (x0' : α0) (x1' : α1) (x2' : α2) (x4' : α4) (x5' : α5), I (k + 1) x0' x1' x2' x4' x5' → rec x0' x1' x2' (nI k + (1 : Int32)) x4' x5') → F rec x0 x1 x2 (nI k) x4 x5) (hx : ∀ (rec : α0 → α1 → α2 → Int32 → α4 → α5 → Prop) (x0 : α0) (x1 : α1) (x2 : α2) (x4 : α4) (x5 : α5), I m x0 x1 x2 x4 x5 → F rec x0 x1 x2 (nI m) x4 x5) : kk_lp6 F x0 x1 x2 (nI k0) x4 x5 := by
  refine kk_lpI6 (fun x0 x1 x2 x3 x4 x5 => ∃ k : Nat, k ≤ m ∧ x3 = nI k ∧ I k x0 x1 x2 x4 x5) (fun x0 x1 x2 x3 x4 x5 => m - x3.toNatClampNeg) ?_ ⟨k0, hk, rfl, h0⟩
  intro rec x0 x1 x2 x3 x4 x5 hI hrec
  obtain ⟨k, hkm, rfl, hI⟩ := hI
  by_cases hlt : k < m
  · refine hs rec k x0 x1 x2 x4 x5 hlt hI (fun x0' x1' x2' x4' x5' h => ?_)
    refine hrec x0' x1' x2' (nI k + (1 : Int32)) x4' x5' ⟨k + 1, hlt, nI_1 k, h⟩ ?_
    rw [nI_1 k, nI_clamp (by omega), nI_clamp (by omega)]
    omega
  · obtain rfl : k = m := by omega
    exact hx rec x0 x1 x2 x4 x5 hI
theorem lf_6_4 {α0 : Type} {α1 : Type} {α2 : Type} {α3 : Type} {α5 : Type} {F : (α0 → α1 → α2 → α3 → Int32 → α5 → Prop) → α0 → α1 → α2 → α3 → Int32 → α5 → Prop} (m : Nat) (hm : m < 2 ^ 31) (I : Nat → α0 → α1 → α2 → α3 → α5 → Prop) {k0 : Nat} (hk : k0 ≤ m) {x0 : α0} {x1 : α1} {x2 : α2} {x3 : α3} {x5 : α5} (h0 : I k0 x0 x1 x2 x3 x5) (hs : ∀ (rec : α0 → α1 → α2 → α3 → Int32 → α5 → Prop) (k : Nat) (x0 : α0) (x1 : α1) (x2 : α2) (x3 : α3) (x5 : α5), k < m → I k x0 x1 x2 x3 x5 → (∀ (x0' : α0) (x1' : α1) (x2' : α2) (x3' : α3) (x5' : α5), I (k + 1) x0' x1' x2' x3' x5' → rec x0' x1' x2' x3' (nI k + (1 : Int32)) x5') → F rec x0 x1 x2 x3 (nI k) x5) (hx : ∀ (rec : α0 → α1 → α2 → α3 → Int32 → α5 → Prop) (x0 : α0) (x1 : α1) (x2 : α2) (x3 : α3) (x5 : α5), I m x0 x1 x2 x3 x5 → F rec x0 x1 x2 x3 (nI m) x5) : kk_lp6 F x0 x1 x2 x3 (nI k0) x5 := by
  refine kk_lpI6 (fun x0 x1 x2 x3 x4 x5 => ∃ k : Nat, k ≤ m ∧ x4 = nI k ∧ I k x0 x1 x2 x3 x5) (fun x0 x1 x2 x3 x4 x5 => m - x4.toNatClampNeg) ?_ ⟨k0, hk, rfl, h0⟩
  intro rec x0 x1 x2 x3 x4 x5 hI hrec
  obtain ⟨k, hkm, rfl, hI⟩ := hI
  by_cases hlt : k < m
  · refine hs rec k x0 x1 x2 x3 x5 hlt hI (fun x0' x1' x2' x3' x5' h => ?_)
    refine hrec x0' x1' x2' x3' (nI k + (1 : Int32)) x5' ⟨k + 1, hlt, nI_1 k, h⟩ ?_
    rw [nI_1 k, nI_clamp (by omega), nI_clamp (by omega)]
    omega
  · obtain rfl : k = m := by omega
    exact hx rec x0 x1 x2 x3 x5 hI
theorem lf_6_5 {α0 : Type} {α1 : Type} {α2 : Type} {α3 : Type} {α4 : Type} {F : (α0 → α1 → α2 → α3 → α4 → Int32 → Prop) → α0 → α1 → α2 → α3 → α4 → Int32 → Prop} (m : Nat) (hm : m < 2 ^ 31) (I : Nat → α0 → α1 → α2 → α3 → α4 → Prop) {k0 : Nat} (hk : k0 ≤ m) {x0 : α0} {x1 : α1} {x2 : α2} {x3 : α3} {x4 : α4} (h0 : I k0 x0 x1 x2 x3 x4) (hs : ∀ (rec : α0 → α1 → α2 → α3 → α4 → Int32 → Prop) (k : Nat) (x0 : α0) (x1 : α1) (x2 : α2) (x3 : α3) (x4 : α4), k < m → I k x0 x1 x2 x3 x4 → (∀ (x0' : α0) (x1' : α1) (x2' : α2) (x3' : α3) (x4' : α4), I (k + 1) x0' x1' x2' x3' x4' → rec x0' x1' x2' x3' x4' (nI k + (1 : Int32))) → F rec x0 x1 x2 x3 x4 (nI k)) (hx : ∀ (rec : α0 → α1 → α2 → α3 → α4 → Int32 → Prop) (x0 : α0) (x1 : α1) (x2 : α2) (x3 : α3) (x4 : α4), I m x0 x1 x2 x3 x4 → F rec x0 x1 x2 x3 x4 (nI m)) : kk_lp6 F x0 x1 x2 x3 x4 (nI k0) := by
  refine kk_lpI6 (fun x0 x1 x2 x3 x4 x5 => ∃ k : Nat, k ≤ m ∧ x5 = nI k ∧ I k x0 x1 x2 x3 x4) (fun x0 x1 x2 x3 x4 x5 => m - x5.toNatClampNeg) ?_ ⟨k0, hk, rfl, h0⟩
  intro rec x0 x1 x2 x3 x4 x5 hI hrec
  obtain ⟨k, hkm, rfl, hI⟩ := hI
  by_cases hlt : k < m
  · refine hs rec k x0 x1 x2 x3 x4 hlt hI (fun x0' x1' x2' x3' x4' h => ?_)
    refine hrec x0' x1' x2' x3' x4' (nI k + (1 : Int32)) ⟨k + 1, hlt, nI_1 k, h⟩ ?_
    rw [nI_1 k, nI_clamp (by omega), nI_clamp (by omega)]
    omega
  · obtain rfl : k = m := by omega
    exact hx rec x0 x1 x2 x3 x4 hI
theorem lf_7_0 {α1 : Type} {α2 : Type} {α3 : Type} {α4 : Type} {α5 : Type} {α6 : Type} {F : (Int32 → α1 → α2 → α3 → α4 → α5 → α6 → Prop) → Int32 → α1 → α2 → α3 → α4 → α5 → α6 → Prop} (m : Nat) (hm : m < 2 ^ 31) (I : Nat → α1 → α2 → α3 → α4 → α5 → α6 → Prop) {k0 : Nat} (hk : k0 ≤ m) {x1 : α1} {x2 : α2} {x3 : α3} {x4 : α4} {x5 : α5} {x6 : α6} (h0 : I k0 x1 x2 x3 x4 x5 x6) (hs : ∀ (rec : Int32 → α1 → α2 → α3 → α4 → α5 → α6 → Prop) (k : Nat) (x1 : α1) (x2 : α2) (x3 : α3) (x4 : α4) (x5 : α5) (x6 : α6), k < m → I k x1 x2 x3 x4 x5 x6 → (∀ (x1' : α1) (x2' : α2) (x3' : α3) (x4' : α4) (x5' : α5) (x6' : α6), I (k + 1) x1' x2' x3' x4' x5' x6' → rec (nI k + (1 : Int32)) x1' x2' x3' x4' x5' x6') → F rec (nI k) x1 x2 x3 x4 x5 x6) (hx : ∀ (rec : Int32 → α1 → α2 → α3 → α4 → α5 → α6 → Prop) (x1 : α1) (x2 : α2) (x3 : α3) (x4 : α4) (x5 : α5) (x6 : α6), I m x1 x2 x3 x4 x5 x6 → F rec (nI m) x1 x2 x3 x4 x5 x6) : kk_lp7 F (nI k0) x1 x2 x3 x4 x5 x6 := by
  refine kk_lpI7 (fun x0 x1 x2 x3 x4 x5 x6 => ∃ k : Nat, k ≤ m ∧ x0 = nI k ∧ I k x1 x2 x3 x4 x5 x6) (fun x0 x1 x2 x3 x4 x5 x6 => m - x0.toNatClampNeg) ?_ ⟨k0, hk, rfl, h0⟩
  intro rec x0 x1 x2 x3 x4 x5 x6 hI hrec
  obtain ⟨k, hkm, rfl, hI⟩ := hI
  by_cases hlt : k < m
  · refine hs rec k x1 x2 x3 x4 x5 x6 hlt hI (fun x1' x2' x3' x4' x5' x6' h => ?_)
    refine hrec (nI k + (1 : Int32)) x1' x2' x3' x4' x5' x6' ⟨k + 1, hlt, nI_1 k, h⟩ ?_
    rw [nI_1 k, nI_clamp (by omega), nI_clamp (by omega)]
    omega
  · obtain rfl : k = m := by omega
    exact hx rec x1 x2 x3 x4 x5 x6 hI
theorem lf_7_1 {α0 : Type} {α2 : Type} {α3 : Type} {α4 : Type} {α5 : Type} {α6 : Type} {F : (α0 → Int32 → α2 → α3 → α4 → α5 → α6 → Prop) → α0 → Int32 → α2 → α3 → α4 → α5 → α6 → Prop} (m : Nat) (hm : m < 2 ^ 31) (I : Nat → α0 → α2 → α3 → α4 → α5 → α6 → Prop) {k0 : Nat} (hk : k0 ≤ m) {x0 : α0} {x2 : α2} {x3 : α3} {x4 : α4} {x5 : α5} {x6 : α6} (h0 : I k0 x0 x2 x3 x4 x5 x6) (hs : ∀ (rec : α0 → Int32 → α2 → α3 → α4 → α5 → α6 → Prop) (k : Nat) (x0 : α0) (x2 : α2) (x3 : α3) (x4 : α4) (x5 : α5) (x6 : α6), k < m → I k x0 x2 x3 x4 x5 x6 → (∀ (x0' : α0) (x2' : α2) (x3' : α3) (x4' : α4) (x5' : α5) (x6' : α6), I (k + 1) x0' x2' x3' x4' x5' x6' → rec x0' (nI k + (1 : Int32)) x2' x3' x4' x5' x6') → F rec x0 (nI k) x2 x3 x4 x5 x6) (hx : ∀ (rec : α0 → Int32 → α2 → α3 → α4 → α5 → α6 → Prop) (x0 : α0) (x2 : α2) (x3 : α3) (x4 : α4) (x5 : α5) (x6 : α6), I m x0 x2 x3 x4 x5 x6 → F rec x0 (nI m) x2 x3 x4 x5 x6) : kk_lp7 F x0 (nI k0) x2 x3 x4 x5 x6 := by
  refine kk_lpI7 (fun x0 x1 x2 x3 x4 x5 x6 => ∃ k : Nat, k ≤ m ∧ x1 = nI k ∧ I k x0 x2 x3 x4 x5 x6) (fun x0 x1 x2 x3 x4 x5 x6 => m - x1.toNatClampNeg) ?_ ⟨k0, hk, rfl, h0⟩
  intro rec x0 x1 x2 x3 x4 x5 x6 hI hrec
  obtain ⟨k, hkm, rfl, hI⟩ := hI
  by_cases hlt : k < m
  · refine hs rec k x0 x2 x3 x4 x5 x6 hlt hI (fun x0' x2' x3' x4' x5' x6' h => ?_)
    refine hrec x0' (nI k + (1 : Int32)) x2' x3' x4' x5' x6' ⟨k + 1, hlt, nI_1 k, h⟩ ?_
    rw [nI_1 k, nI_clamp (by omega), nI_clamp (by omega)]
    omega
  · obtain rfl : k = m := by omega
    exact hx rec x0 x2 x3 x4 x5 x6 hI
theorem lf_7_2 {α0 : Type} {α1 : Type} {α3 : Type} {α4 : Type} {α5 : Type} {α6 : Type} {F : (α0 → α1 → Int32 → α3 → α4 → α5 → α6 → Prop) → α0 → α1 → Int32 → α3 → α4 → α5 → α6 → Prop} (m : Nat) (hm : m < 2 ^ 31) (I : Nat → α0 → α1 → α3 → α4 → α5 → α6 → Prop) {k0 : Nat} (hk : k0 ≤ m) {x0 : α0} {x1 : α1} {x3 : α3} {x4 : α4} {x5 : α5} {x6 : α6} (h0 : I k0 x0 x1 x3 x4 x5 x6) (hs : ∀ (rec : α0 → α1 → Int32 → α3 → α4 → α5 → α6 → Prop) (k : Nat) (x0 : α0) (x1 : α1) (x3 : α3) (x4 : α4) (x5 : α5) (x6 : α6), k < m → I k x0 x1 x3 x4 x5 x6 → (∀ (x0' : α0) (x1' : α1) (x3' : α3) (x4' : α4) (x5' : α5) (x6' : α6), I (k + 1) x0' x1' x3' x4' x5' x6' → rec x0' x1' (nI k + (1 : Int32)) x3' x4' x5' x6') → F rec x0 x1 (nI k) x3 x4 x5 x6) (hx : ∀ (rec : α0 → α1 → Int32 → α3 → α4 → α5 → α6 → Prop) (x0 : α0) (x1 : α1) (x3 : α3) (x4 : α4) (x5 : α5) (x6 : α6), I m x0 x1 x3 x4 x5 x6 → F rec x0 x1 (nI m) x3 x4 x5 x6) : kk_lp7 F x0 x1 (nI k0) x3 x4 x5 x6 := by
  refine kk_lpI7 (fun x0 x1 x2 x3 x4 x5 x6 => ∃ k : Nat, k ≤ m ∧ x2 = nI k ∧ I k x0 x1 x3 x4 x5 x6) (fun x0 x1 x2 x3 x4 x5 x6 => m - x2.toNatClampNeg) ?_ ⟨k0, hk, rfl, h0⟩
  intro rec x0 x1 x2 x3 x4 x5 x6 hI hrec
  obtain ⟨k, hkm, rfl, hI⟩ := hI
  by_cases hlt : k < m
  · refine hs rec k x0 x1 x3 x4 x5 x6 hlt hI (fun x0' x1' x3' x4' x5' x6' h => ?_)
    refine hrec x0' x1' (nI k + (1 : Int32)) x3' x4' x5' x6' ⟨k + 1, hlt, nI_1 k, h⟩ ?_
    rw [nI_1 k, nI_clamp (by omega), nI_clamp (by omega)]
    omega
  · obtain rfl : k = m := by omega
    exact hx rec x0 x1 x3 x4 x5 x6 hI
theorem lf_7_3 {α0 : Type} {α1 : Type} {α2 : Type} {α4 : Type} {α5 : Type} {α6 : Type} {F : (α0 → α1 → α2 → Int32 → α4 → α5 → α6 → Prop) → α0 → α1 → α2 → Int32 → α4 → α5 → α6 → Prop} (m : Nat) (hm : m < 2 ^ 31) (I : Nat → α0 → α1 → α2 → α4 → α5 → α6 → Prop) {k0 : Nat} (hk : k0 ≤ m) {x0 : α0} {x1 : α1} {x2 : α2} {x4 : α4} {x5 : α5} {x6 : α6} (h0 : I k0 x0 x1 x2 x4 x5 x6) (hs : ∀ (rec : α0 → α1 → α2 → Int32 → α4 → α5 → α6 → Prop) (k : Nat) (x0 : α0) (x1 : α1) (x2 : α2) (x4 : α4) (x5 : α5) (x6 : α6), k < m → I k x0 x1 x2 x4 x5 x6 → (∀ (x0' : α0) (x1' : α1) (x2' : α2) (x4' : α4) (x5' : α5) (x6' : α6), I (k + 1) x0' x1' x2' x4' x5' x6' → rec x0' x1' x2' (nI k + (1 : Int32)) x4' x5' x6') → F rec x0 x1 x2 (nI k) x4 x5 x6) (hx : ∀ (rec : α0 → α1 → α2 → Int32 → α4 → α5 → α6 → Prop) (x0 : α0) (x1 : α1) (x2 : α2) (x4 : α4) (x5 : α5) (x6 : α6), I m x0 x1 x2 x4 x5 x6 → F rec x0 x1 x2 (nI m) x4 x5 x6) : kk_lp7 F x0 x1 x2 (nI k0) x4 x5 x6 := by
  refine kk_lpI7 (fun x0 x1 x2 x3 x4 x5 x6 => ∃ k : Nat, k ≤ m ∧ x3 = nI k ∧ I k x0 x1 x2 x4 x5 x6) (fun x0 x1 x2 x3 x4 x5 x6 => m - x3.toNatClampNeg) ?_ ⟨k0, hk, rfl, h0⟩
  intro rec x0 x1 x2 x3 x4 x5 x6 hI hrec
  obtain ⟨k, hkm, rfl, hI⟩ := hI
  by_cases hlt : k < m
  · refine hs rec k x0 x1 x2 x4 x5 x6 hlt hI (fun x0' x1' x2' x4' x5' x6' h => ?_)
    refine hrec x0' x1' x2' (nI k + (1 : Int32)) x4' x5' x6' ⟨k + 1, hlt, nI_1 k, h⟩ ?_
    rw [nI_1 k, nI_clamp (by omega), nI_clamp (by omega)]
    omega
  · obtain rfl : k = m := by omega
    exact hx rec x0 x1 x2 x4 x5 x6 hI
theorem lf_7_4 {α0 : Type} {α1 : Type} {α2 : Type} {α3 : Type} {α5 : Type} {α6 : Type} {F : (α0 → α1 → α2 → α3 → Int32 → α5 → α6 → Prop) → α0 → α1 → α2 → α3 → Int32 → α5 → α6 → Prop} (m : Nat) (hm : m < 2 ^ 31) (I : Nat → α0 → α1 → α2 → α3 → α5 → α6 → Prop) {k0 : Nat} (hk : k0 ≤ m) {x0 : α0} {x1 : α1} {x2 : α2} {x3 : α3} {x5 : α5} {x6 : α6} (h0 : I k0 x0 x1 x2 x3 x5 x6) (hs : ∀ (rec : α0 → α1 → α2 → α3 → Int32 → α5 → α6 → Prop) (k : Nat) (x0 : α0) (x1 : α1) (x2 : α2) (x3 : α3) (x5 : α5) (x6 : α6), k < m → I k x0 x1 x2 x3 x5 x6 → (∀ (x0' : α0) (x1' : α1) (x2' : α2) (x3' : α3) (x5' : α5) (x6' : α6), I (k + 1) x0' x1' x2' x3' x5' x6' → rec x0' x1' x2' x3' (nI k + (1 : Int32)) x5' x6') → F rec x0 x1 x2 x3 (nI k) x5 x6) (hx : ∀ (rec : α0 → α1 → α2 → α3 → Int32 → α5 → α6 → Prop) (x0 : α0) (x1 : α1) (x2 : α2) (x3 : α3) (x5 : α5) (x6 : α6), I m x0 x1 x2 x3 x5 x6 → F rec x0 x1 x2 x3 (nI m) x5 x6) : kk_lp7 F x0 x1 x2 x3 (nI k0) x5 x6 := by
  refine kk_lpI7 (fun x0 x1 x2 x3 x4 x5 x6 => ∃ k : Nat, k ≤ m ∧ x4 = nI k ∧ I k x0 x1 x2 x3 x5 x6) (fun x0 x1 x2 x3 x4 x5 x6 => m - x4.toNatClampNeg) ?_ ⟨k0, hk, rfl, h0⟩
  intro rec x0 x1 x2 x3 x4 x5 x6 hI hrec
  obtain ⟨k, hkm, rfl, hI⟩ := hI
  by_cases hlt : k < m
  · refine hs rec k x0 x1 x2 x3 x5 x6 hlt hI (fun x0' x1' x2' x3' x5' x6' h => ?_)
    refine hrec x0' x1' x2' x3' (nI k + (1 : Int32)) x5' x6' ⟨k + 1, hlt, nI_1 k, h⟩ ?_
    rw [nI_1 k, nI_clamp (by omega), nI_clamp (by omega)]
    omega
  · obtain rfl : k = m := by omega
    exact hx rec x0 x1 x2 x3 x5 x6 hI
theorem lf_7_5 {α0 : Type} {α1 : Type} {α2 : Type} {α3 : Type} {α4 : Type} {α6 : Type} {F : (α0 → α1 → α2 → α3 → α4 → Int32 → α6 → Prop) → α0 → α1 → α2 → α3 → α4 → Int32 → α6 → Prop} (m : Nat) (hm : m < 2 ^ 31) (I : Nat → α0 → α1 → α2 → α3 → α4 → α6 → Prop) {k0 : Nat} (hk : k0 ≤ m) {x0 : α0} {x1 : α1} {x2 : α2} {x3 : α3} {x4 : α4} {x6 : α6} (h0 : I k0 x0 x1 x2 x3 x4 x6) (hs : ∀ (rec : α0 → α1 → α2 → α3 → α4 → Int32 → α6 → Prop) (k : Nat) (x0 : α0) (x1 : α1) (x2 : α2) (x3 : α3) (x4 : α4) (x6 : α6), k < m → I k x0 x1 x2 x3 x4 x6 → (∀ (x0' : α0) (x1' : α1) (x2' : α2) (x3' : α3) (x4' : α4) (x6' : α6), I (k + 1) x0' x1' x2' x3' x4' x6' → rec x0' x1' x2' x3' x4' (nI k + (1 : Int32)) x6') → F rec x0 x1 x2 x3 x4 (nI k) x6) (hx : ∀ (rec : α0 → α1 → α2 → α3 → α4 → Int32 → α6 → Prop) (x0 : α0) (x1 : α1) (x2 : α2) (x3 : α3) (x4 : α4) (x6 : α6), I m x0 x1 x2 x3 x4 x6 → F rec x0 x1 x2 x3 x4 (nI m) x6) : kk_lp7 F x0 x1 x2 x3 x4 (nI k0) x6 := by
  refine kk_lpI7 (fun x0 x1 x2 x3 x4 x5 x6 => ∃ k : Nat, k ≤ m ∧ x5 = nI k ∧ I k x0 x1 x2 x3 x4 x6) (fun x0 x1 x2 x3 x4 x5 x6 => m - x5.toNatClampNeg) ?_ ⟨k0, hk, rfl, h0⟩
  intro rec x0 x1 x2 x3 x4 x5 x6 hI hrec
  obtain ⟨k, hkm, rfl, hI⟩ := hI
  by_cases hlt : k < m
  · refine hs rec k x0 x1 x2 x3 x4 x6 hlt hI (fun x0' x1' x2' x3' x4' x6' h => ?_)
    refine hrec x0' x1' x2' x3' x4' (nI k + (1 : Int32)) x6' ⟨k + 1, hlt, nI_1 k, h⟩ ?_
    rw [nI_1 k, nI_clamp (by omega), nI_clamp (by omega)]
    omega
  · obtain rfl : k = m := by omega
    exact hx rec x0 x1 x2 x3 x4 x6 hI
theorem lf_7_6 {α0 : Type} {α1 : Type} {α2 : Type} {α3 : Type} {α4 : Type} {α5 : Type} {F : (α0 → α1 → α2 → α3 → α4 → α5 → Int32 → Prop) → α0 → α1 → α2 → α3 → α4 → α5 → Int32 → Prop} (m : Nat) (hm : m < 2 ^ 31) (I : Nat → α0 → α1 → α2 → α3 → α4 → α5 → Prop) {k0 : Nat} (hk : k0 ≤ m) {x0 : α0} {x1 : α1} {x2 : α2} {x3 : α3} {x4 : α4} {x5 : α5} (h0 : I k0 x0 x1 x2 x3 x4 x5) (hs : ∀ (rec : α0 → α1 → α2 → α3 → α4 → α5 → Int32 → Prop) (k : Nat) (x0 : α0) (x1 : α1) (x2 : α2) (x3 : α3) (x4 : α4) (x5 : α5), k < m → I k x0 x1 x2 x3 x4 x5 → (∀ (x0' : α0) (x1' : α1) (x2' : α2) (x3' : α3) (x4' : α4) (x5' : α5), I (k + 1) x0' x1' x2' x3' x4' x5' → rec x0' x1' x2' x3' x4' x5' (nI k + (1 : Int32))) → F rec x0 x1 x2 x3 x4 x5 (nI k)) (hx : ∀ (rec : α0 → α1 → α2 → α3 → α4 → α5 → Int32 → Prop) (x0 : α0) (x1 : α1) (x2 : α2) (x3 : α3) (x4 : α4) (x5 : α5), I m x0 x1 x2 x3 x4 x5 → F rec x0 x1 x2 x3 x4 x5 (nI m)) : kk_lp7 F x0 x1 x2 x3 x4 x5 (nI k0) := by
  refine kk_lpI7 (fun x0 x1 x2 x3 x4 x5 x6 => ∃ k : Nat, k ≤ m ∧ x6 = nI k ∧ I k x0 x1 x2 x3 x4 x5) (fun x0 x1 x2 x3 x4 x5 x6 => m - x6.toNatClampNeg) ?_ ⟨k0, hk, rfl, h0⟩
  intro rec x0 x1 x2 x3 x4 x5 x6 hI hrec
  obtain ⟨k, hkm, rfl, hI⟩ := hI
  by_cases hlt : k < m
  · refine hs rec k x0 x1 x2 x3 x4 x5 hlt hI (fun x0' x1' x2' x3' x4' x5' h => ?_)
    refine hrec x0' x1' x2' x3' x4' x5' (nI k + (1 : Int32)) ⟨k + 1, hlt, nI_1 k, h⟩ ?_
    rw [nI_1 k, nI_clamp (by omega), nI_clamp (by omega)]
    omega
  · obtain rfl : k = m := by omega
    exact hx rec x0 x1 x2 x3 x4 x5 hI
