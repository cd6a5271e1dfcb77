def kk_j0  (K : Prop) (B : (Prop) → Prop) : Prop := B K
theorem kk_jW0  {K P : Prop} {B : (Prop) → Prop} {G : Prop} (h : kk_j0 K B) (hJ : K → P) (hb : ∀ J : Prop, (J → P) → B J → G) : G := hb K hJ h
def kk_j1 {α0 : Type} (K : α0 → Prop) (B : (α0 → Prop) → Prop) : Prop := B K
theorem kk_jW1 {α0 : Type} {K P : α0 → Prop} {B : (α0 → Prop) → Prop} {G : Prop} (h : kk_j1 K B) (hJ : ∀ (x0 : α0), K x0 → P x0) (hb : ∀ J : α0 → Prop, (∀ (x0 : α0), J x0 → P x0) → B J → G) : G := hb K hJ h
def kk_it1 {α0 : Type} (F : (α0 → Prop) → α0 → Prop) : Nat → α0 → Prop
  | 0 => fun _ => False
  | n + 1 => F (kk_it1 F n)
def kk_lp1 {α0 : Type} (F : (α0 → Prop) → α0 → Prop) (x0 : α0) : Prop := ∃ n, kk_it1 F n x0
theorem kk_lpW1 {α0 : Type} {F : (α0 → Prop) → α0 → Prop} {P : α0 → Prop} (hs : ∀ rec : α0 → Prop, (∀ (x0 : α0), rec x0 → P x0) → ∀ (x0 : α0), F rec x0 → P x0) {x0 : α0} (h : kk_lp1 F x0) : P x0 := by
  obtain ⟨n, h⟩ := h
  revert h
  revert x0
  induction n with
  | zero => intro x0 h; exact h.elim
  | succ n ih => intro x0 h; exact hs (kk_it1 F n) (fun x0 h => ih h) x0 h
/-- a loop: an invariant and a measure that falls -/
theorem kk_lpI1 {α0 : Type} {F : (α0 → Prop) → α0 → Prop} (I : α0 → Prop) (μ : α0 → Nat) (hs : ∀ rec : α0 → Prop, ∀ (x0 : α0), I x0 → (∀ (x0' : α0), I x0' → μ x0' < μ x0 → rec x0') → F rec x0) {x0 : α0} (h : I x0) : kk_lp1 F x0 := by
  have key : ∀ n, ∀ (x0 : α0), I x0 → μ x0 < n → kk_it1 F n x0 := by
    intro n
    induction n with
    | zero => intro x0 _ h0; exact absurd h0 (Nat.not_lt_zero _)
    | succ n ih => exact fun x0 h1 h2 => hs (kk_it1 F n) x0 h1 (fun x0' h3 h4 => ih x0' h3 (by omega))
  exact ⟨μ x0 + 1, key _ x0 h (Nat.lt_succ_self _)⟩
def kk_j2 {α0 : Type} {α1 : Type} (K : α0 → α1 → Prop) (B : (α0 → α1 → Prop) → Prop) : Prop := B K
theorem kk_jW2 {α0 : Type} {α1 : Type} {K P : α0 → α1 → Prop} {B : (α0 → α1 → Prop) → Prop} {G : Prop} (h : kk_j2 K B) (hJ : ∀ (x0 : α0) (x1 : α1), K x0 x1 → P x0 x1) (hb : ∀ J : α0 → α1 → Prop, (∀ (x0 : α0) (x1 : α1), J x0 x1 → P x0 x1) → B J → G) : G := hb K hJ h
def kk_it2 {α0 : Type} {α1 : Type} (F : (α0 → α1 → Prop) → α0 → α1 → Prop) : Nat → α0 → α1 → Prop
  | 0 => fun _ _ => False
  | n + 1 => F (kk_it2 F n)
def kk_lp2 {α0 : Type} {α1 : Type} (F : (α0 → α1 → Prop) → α0 → α1 → Prop) (x0 : α0) (x1 : α1) : Prop := ∃ n, kk_it2 F n x0 x1
theorem kk_lpW2 {α0 : Type} {α1 : Type} {F : (α0 → α1 → Prop) → α0 → α1 → Prop} {P : α0 → α1 → Prop} (hs : ∀ rec : α0 → α1 → Prop, (∀ (x0 : α0) (x1 : α1), rec x0 x1 → P x0 x1) → ∀ (x0 : α0) (x1 : α1), F rec x0 x1 → P x0 x1) {x0 : α0} {x1 : α1} (h : kk_lp2 F x0 x1) : P x0 x1 := by
  obtain ⟨n, h⟩ := h
  revert h
  revert x0 x1
  induction n with
  | zero => intro x0 x1 h; exact h.elim
  | succ n ih => intro x0 x1 h; exact hs (kk_it2 F n) (fun x0 x1 h => ih h) x0 x1 h
/-- a loop: an invariant and a measure that falls -/
theorem kk_lpI2 {α0 : Type} {α1 : Type} {F : (α0 → α1 → Prop) → α0 → α1 → Prop} (I : α0 → α1 → Prop) (μ : α0 → α1 → Nat) (hs : ∀ rec : α0 → α1 → Prop, ∀ (x0 : α0) (x1 : α1), I x0 x1 → (∀ (x0' : α0) (x1' : α1), I x0' x1' → μ x0' x1' < μ x0 x1 → rec x0' x1') → F rec x0 x1) {x0 : α0} {x1 : α1} (h : I x0 x1) : kk_lp2 F x0 x1 := by
  have key : ∀ n, ∀ (x0 : α0) (x1 : α1), I x0 x1 → μ x0 x1 < n → kk_it2 F n x0 x1 := by
    intro n
    induction n with
    | zero => intro x0 x1 _ h0; exact absurd h0 (Nat.not_lt_zero _)
    | succ n ih => exact fun x0 x1 h1 h2 => hs (kk_it2 F n) x0 x1 h1 (fun x0' x1' h3 h4 => ih x0' x1' h3 (by omega))
  exact ⟨μ x0 x1 + 1, key _ x0 x1 h (Nat.lt_succ_self _)⟩
def kk_j3 {α0 : Type} {α1 : Type} {α2 : Type} (K : α0 → α1 → α2 → Prop) (B : (α0 → α1 → α2 → Prop) → Prop) : Prop := B K
theorem kk_jW3 {α0 : Type} {α1 : Type} {α2 : Type} {K P : α0 → α1 → α2 → Prop} {B : (α0 → α1 → α2 → Prop) → Prop} {G : Prop} (h : kk_j3 K B) (hJ : ∀ (x0 : α0) (x1 : α1) (x2 : α2), K x0 x1 x2 → P x0 x1 x2) (hb : ∀ J : α0 → α1 → α2 → Prop, (∀ (x0 : α0) (x1 : α1) (x2 : α2), J x0 x1 x2 → P x0 x1 x2) → B J → G) : G := hb K hJ h
def kk_it3 {α0 : Type} {α1 : Type} {α2 : Type} (F : (α0 → α1 → α2 → Prop) → α0 → α1 → α2 → Prop) : Nat → α0 → α1 → α2 → Prop
  | 0 => fun _ _ _ => False
  | n + 1 => F (kk_it3 F n)
def kk_lp3 {α0 : Type} {α1 : Type} {α2 : Type} (F : (α0 → α1 → α2 → Prop) → α0 → α1 → α2 → Prop) (x0 : α0) (x1 : α1) (x2 : α2) : Prop := ∃ n, kk_it3 F n x0 x1 x2
theorem kk_lpW3 {α0 : Type} {α1 : Type} {α2 : Type} {F : (α0 → α1 → α2 → Prop) → α0 → α1 → α2 → Prop} {P : α0 → α1 → α2 → Prop} (hs : ∀ rec : α0 → α1 → α2 → Prop, (∀ (x0 : α0) (x1 : α1) (x2 : α2), rec x0 x1 x2 → P x0 x1 x2) → ∀ (x0 : α0) (x1 : α1) (x2 : α2), F rec x0 x1 x2 → P x0 x1 x2) {x0 : α0} {x1 : α1} {x2 : α2} (h : kk_lp3 F x0 x1 x2) : P x0 x1 x2 := by
  obtain ⟨n, h⟩ := h
  revert h
  revert x0 x1 x2
  induction n with
  | zero => intro x0 x1 x2 h; exact h.elim
  | succ n ih => intro x0 x1 x2 h; exact hs (kk_it3 F n) (fun x0 x1 x2 h => ih h) x0 x1 x2 h
/-- a loop: an invariant and a measure that falls -/
theorem kk_lpI3 {α0 : Type} {α1 : Type} {α2 : Type} {F : (α0 → α1 → α2 → Prop) → α0 → α1 → α2 → Prop} (I : α0 → α1 → α2 → Prop) (μ : α0 → α1 → α2 → Nat) (hs : ∀ rec : α0 → α1 → α2 → Prop, ∀ (x0 : α0) (x1 : α1) (x2 : α2), I x0 x1 x2 → (∀ (x0' : α0) (x1' : α1) (x2' : α2), I x0' x1' x2' → μ x0' x1' x2' < μ x0 x1 x2 → rec x0' x1' x2') → F rec x0 x1 x2) {x0 : α0} {x1 : α1} {x2 : α2} (h : I x0 x1 x2) : kk_lp3 F x0 x1 x2 := by
  have key : ∀ n, ∀ (x0 : α0) (x1 : α1) (x2 : α2), I x0 x1 x2 → μ x0 x1 x2 < n → kk_it3 F n x0 x1 x2 := by
    intro n
    induction n with
    | zero => intro x0 x1 x2 _ h0; exact absurd h0 (Nat.not_lt_zero _)
    | succ n ih => exact fun x0 x1 x2 h1 h2 => hs (kk_it3 F n) x0 x1 x2 h1 (fun x0' x1' x2' h3 h4 => ih x0' x1' x2' h3 (by omega))
  exact ⟨μ x0 x1 x2 + 1, key _ x0 x1 x2 h (Nat.lt_succ_self _)⟩
def kk_j4 {α0 : Type} {α1 : Type} {α2 : Type} {α3 : Type} (K : α0 → α1 → α2 → α3 → Prop) (B : (α0 → α1 → α2 → α3 → Prop) → Prop) : Prop := B K
theorem kk_jW4 {α0 : Type} {α1 : Type} {α2 : Type} {α3 : Type} {K P : α0 → α1 → α2 → α3 → Prop} {B : (α0 → α1 → α2 → α3 → Prop) → Prop} {G : Prop} (h : kk_j4 K B) (hJ : ∀ (x0 : α0) (x1 : α1) (x2 : α2) (x3 : α3), K x0 x1 x2 x3 → P x0 x1 x2 x3) (hb : ∀ J : α0 → α1 → α2 → α3 → Prop, (∀ (x0 : α0) (x1 : α1) (x2 : α2) (x3 : α3), J x0 x1 x2 x3 → P x0 x1 x2 x3) → B J → G) : G := hb K hJ h
def kk_it4 {α0 : Type} {α1 : Type} {α2 : Type} {α3 : Type} (F : (α0 → α1 → α2 → α3 → Prop) → α0 → α1 → α2 → α3 → Prop) : Nat → α0 → α1 → α2 → α3 → Prop
  | 0 => fun _ _ _ _ => False
  | n + 1 => F (kk_it4 F n)
def kk_lp4 {α0 : Type} {α1 : Type} {α2 : Type} {α3 : Type} (F : (α0 → α1 → α2 → α3 → Prop) → α0 → α1 → α2 → α3 → Prop) (x0 : α0) (x1 : α1) (x2 : α2) (x3 : α3) : Prop := ∃ n, kk_it4 F n x0 x1 x2 x3
theorem kk_lpW4 {α0 : Type} {α1 : Type} {α2 : Type} {α3 : Type} {F : (α0 → α1 → α2 → α3 → Prop) → α0 → α1 → α2 → α3 → Prop} {P : α0 → α1 → α2 → α3 → Prop} (hs : ∀ rec : α0 → α1 → α2 → α3 → Prop, (∀ (x0 : α0) (x1 : α1) (x2 : α2) (x3 : α3), rec x0 x1 x2 x3 → P x0 x1 x2 x3) → ∀ (x0 : α0) (x1 : α1) (x2 : α2) (x3 : α3), F rec x0 x1 x2 x3 → P x0 x1 x2 x3) {x0 : α0} {x1 : α1} {x2 : α2} {x3 : α3} (h : kk_lp4 F x0 x1 x2 x3) : P x0 x1 x2 x3 := by
  obtain ⟨n, h⟩ := h
  revert h
  revert x0 x1 x2 x3
  induction n with
  | zero => intro x0 x1 x2 x3 h; exact h.elim
  | succ n ih => intro x0 x1 x2 x3 h; exact hs (kk_it4 F n) (fun x0 x1 x2 x3 h => ih h) x0 x1 x2 x3 h
/-- a loop: an invariant and a measure that falls -/
theorem kk_lpI4 {α0 : Type} {α1 : Type} {α2 : Type} {α3 : Type} {F : (α0 → α1 → α2 → α3 → Prop) → α0 → α1 → α2 → α3 → Prop} (I : α0 → α1 → α2 → α3 → Prop) (μ : α0 → α1 → α2 → α3 → Nat) (hs : ∀ rec : α0 → α1 → α2 → α3 → Prop, ∀ (x0 : α0) (x1 : α1) (x2 : α2) (x3 : α3), I x0 x1 x2 x3 → (∀ (x0' : α0) (x1' : α1) (x2' : α2) (x3' : α3), I x0' x1' x2' x3' → μ x0' x1' x2' x3' < μ x0 x1 x2 x3 → rec x0' x1' x2' x3') → F rec x0 x1 x2 x3) {x0 : α0} {x1 : α1} {x2 : α2} {x3 : α3} (h : I x0 x1 x2 x3) : kk_lp4 F x0 x1 x2 x3 := by
  have key : ∀ n, ∀ (x0 : α0) (x1 : α1) (x2 : α2) (x3 : α3), I x0 x1 x2 x3 → μ x0 x1 x2 x3 < n → kk_it4 F n x0 x1 x2 x3 := by
    intro n
    induction n with
    | zero => intro x0 x1 x2 x3 _ h0; exact absurd h0 (Nat.not_lt_zero _)
    | succ n ih => exact fun x0 x1 x2 x3 h1 h2 => hs (kk_it4 F n) x0 x1 x2 x3 h1 (fun x0' x1' x2' x3' h3 h4 => ih x0' x1' x2' x3' h3 (by omega))
  exact ⟨μ x0 x1 x2 x3 + 1, key _ x0 x1 x2 x3 h (Nat.lt_succ_self _)⟩
def kk_j5 {α0 : Type} {α1 : Type} {α2 : Type} {α3 : Type} {α4 : Type} (K : α0 → α1 → α2 → α3 → α4 → Prop) (B : (α0 → α1 → α2 → α3 → α4 → Prop) → Prop) : Prop := B K
theorem kk_jW5 {α0 : Type} {α1 : Type} {α2 : Type} {α3 : Type} {α4 : Type} {K P : α0 → α1 → α2 → α3 → α4 → Prop} {B : (α0 → α1 → α2 → α3 → α4 → Prop) → Prop} {G : Prop} (h : kk_j5 K B) (hJ : ∀ (x0 : α0) (x1 : α1) (x2 : α2) (x3 : α3) (x4 : α4), K x0 x1 x2 x3 x4 → P x0 x1 x2 x3 x4) (hb : ∀ J : α0 → α1 → α2 → α3 → α4 → Prop, (∀ (x0 : α0) (x1 : α1) (x2 : α2) (x3 : α3) (x4 : α4), J x0 x1 x2 x3 x4 → P x0 x1 x2 x3 x4) → B J → G) : G := hb K hJ h
def kk_it5 {α0 : Type} {α1 : Type} {α2 : Type} {α3 : Type} {α4 : Type} (F : (α0 → α1 → α2 → α3 → α4 → Prop) → α0 → α1 → α2 → α3 → α4 → Prop) : Nat → α0 → α1 → α2 → α3 → α4 → Prop
  | 0 => fun _ _ _ _ _ => False
  | n + 1 => F (kk_it5 F n)
def kk_lp5 {α0 : Type} {α1 : Type} {α2 : Type} {α3 : Type} {α4 : Type} (F : (α0 → α1 → α2 → α3 → α4 → Prop) → α0 → α1 → α2 → α3 → α4 → Prop) (x0 : α0) (x1 : α1) (x2 : α2) (x3 : α3) (x4 : α4) : Prop := ∃ n, kk_it5 F n x0 x1 x2 x3 x4
theorem kk_lpW5 {α0 : Type} {α1 : Type} {α2 : Type} {α3 : Type} {α4 : Type} {F : (α0 → α1 → α2 → α3 → α4 → Prop) → α0 → α1 → α2 → α3 → α4 → Prop} {P : α0 → α1 → α2 → α3 → α4 → Prop} (hs : ∀ rec : α0 → α1 → α2 → α3 → α4 → Prop, (∀ (x0 : α0) (x1 : α1) (x2 : α2) (x3 : α3) (x4 : α4), rec x0 x1 x2 x3 x4 → P x0 x1 x2 x3 x4) → ∀ (x0 : α0) (x1 : α1) (x2 : α2) (x3 : α3) (x4 : α4), F rec x0 x1 x2 x3 x4 → P x0 x1 x2 x3 x4) {x0 : α0} {x1 : α1} {x2 : α2} {x3 : α3} {x4 : α4} (h : kk_lp5 F x0 x1 x2 x3 x4) : P x0 x1 x2 x3 x4 := by
  obtain ⟨n, h⟩ := h
  revert h
  revert x0 x1 x2 x3 x4
  induction n with
  | zero => intro x0 x1 x2 x3 x4 h; exact h.elim
  | succ n ih => intro x0 x1 x2 x3 x4 h; exact hs (kk_it5 F n) (fun x0 x1 x2 x3 x4 h => ih h) x0 x1 x2 x3 x4 h
/-- a loop: an invariant and a measure that falls -/
theorem kk_lpI5 {α0 : Type} {α1 : Type} {α2 : Type} {α3 : Type} {α4 : Type} {F : (α0 → α1 → α2 → α3 → α4 → Prop) → α0 → α1 → α2 → α3 → α4 → Prop} (I : α0 → α1 → α2 → α3 → α4 → Prop) (μ : α0 → α1 → α2 → α3 → α4 → Nat) (hs : ∀ rec : α0 → α1 → α2 → α3 → α4 → Prop, ∀ (x0 : α0) (x1 : α1) (x2 : α2) (x3 : α3) (x4 : α4), I x0 x1 x2 x3 x4 → (∀ (x0' : α0) (x1' : α1) (x2' : α2) (x3' : α3) (x4' : α4), I x0' x1' x2' x3' x4' → μ x0' x1' x2' x3' x4' < μ x0 x1 x2 x3 x4 → rec x0' x1' x2' x3' x4') → F rec x0 x1 x2 x3 x4) {x0 : α0} {x1 : α1} {x2 : α2} {x3 : α3} {x4 : α4} (h : I x0 x1 x2 x3 x4) : kk_lp5 F x0 x1 x2 x3 x4 := by
  have key : ∀ n, ∀ (x0 : α0) (x1 : α1) (x2 : α2) (x3 : α3) (x4 : α4), I x0 x1 x2 x3 x4 → μ x0 x1 x2 x3 x4 < n → kk_it5 F n x0 x1 x2 x3 x4 := by
    intro n
    induction n with
    | zero => intro x0 x1 x2 x3 x4 _ h0; exact absurd h0 (Nat.not_lt_zero _)
    | succ n ih => exact fun x0 x1 x2 x3 x4 h1 h2 => hs (kk_it5 F n) x0 x1 x2 x3 x4 h1 (fun x0' x1' x2' x3' x4' h3 h4 => ih x0' x1' x2' x3' x4' h3 (by omega))
  exact ⟨μ x0 x1 x2 x3 x4 + 1, key _ x0 x1 x2 x3 x4 h (Nat.lt_succ_self _)⟩
def kk_j6 {α0 : Type} {α1 : Type} {α2 : Type} {α3 : Type} {α4 : Type} {α5 : Type} (K : α0 → α1 → α2 → α3 → α4 → α5 → Prop) (B : (α0 → α1 → α2 → α3 → α4 → α5 → Prop) → Prop) : Prop := B K
theorem kk_jW6 {α0 : Type} {α1 : Type} {α2 : Type} {α3 : Type} {α4 : Type} {α5 : Type} {K P : α0 → α1 → α2 → α3 → α4 → α5 → Prop} {B : (α0 → α1 → α2 → α3 → α4 → α5 → Prop) → Prop} {G : Prop} (h : kk_j6 K B) (hJ : ∀ (x0 : α0) (x1 : α1) (x2 : α2) (x3 : α3) (x4 : α4) (x5 : α5), K x0 x1 x2 x3 x4 x5 → P x0 x1 x2 x3 x4 x5) (hb : ∀ J : α0 → α1 → α2 → α3 → α4 → α5 → Prop, (∀ (x0 : α0) (x1 : α1) (x2 : α2) (x3 : α3) (x4 : α4) (x5 : α5), J x0 x1 x2 x3 x4 x5 → P x0 x1 x2 x3 x4 x5) → B J → G) : G := hb K hJ h
def kk_it6 {α0 : Type} {α1 : Type} {α2 : Type} {α3 : Type} {α4 : Type} {α5 : Type} (F : (α0 → α1 → α2 → α3 → α4 → α5 → Prop) → α0 → α1 → α2 → α3 → α4 → α5 → Prop) : Nat → α0 → α1 → α2 → α3 → α4 → α5 → Prop
  | 0 => fun _ _ _ _ _ _ => False
  | n + 1 => F (kk_it6 F n)
def kk_lp6 {α0 : Type} {α1 : Type} {α2 : Type} {α3 : Type} {α4 : Type} {α5 : Type} (F : (α0 → α1 → α2 → α3 → α4 → α5 → Prop) → α0 → α1 → α2 → α3 → α4 → α5 → Prop) (x0 : α0) (x1 : α1) (x2 : α2) (x3 : α3) (x4 : α4) (x5 : α5) : Prop := ∃ n, kk_it6 F n x0 x1 x2 x3 x4 x5
theorem kk_lpW6 {α0 : Type} {α1 : Type} {α2 : Type} {α3 : Type} {α4 : Type} {α5 : Type} {F : (α0 → α1 → α2 → α3 → α4 → α5 → Prop) → α0 → α1 → α2 → α3 → α4 → α5 → Prop} {P : α0 → α1 → α2 → α3 → α4 → α5 → Prop} (hs : ∀ rec : α0 → α1 → α2 → α3 → α4 → α5 → Prop, (∀ (x0 : α0) (x1 : α1) (x2 : α2) (x3 : α3) (x4 : α4) (x5 : α5), rec x0 x1 x2 x3 x4 x5 → P x0 x1 x2 x3 x4 x5) → ∀ (x0 : α0) (x1 : α1) (x2 : α2) (x3 : α3) (x4 : α4) (x5 : α5), F rec x0 x1 x2 x3 x4 x5 → P x0 x1 x2 x3 x4 x5) {x0 : α0} {x1 : α1} {x2 : α2} {x3 : α3} {x4 : α4} {x5 : α5} (h : kk_lp6 F x0 x1 x2 x3 x4 x5) : P x0 x1 x2 x3 x4 x5 := by
  obtain ⟨n, h⟩ := h
  revert h
  revert x0 x1 x2 x3 x4 x5
  induction n with
  | zero => intro x0 x1 x2 x3 x4 x5 h; exact h.elim
  | succ n ih => intro x0 x1 x2 x3 x4 x5 h; exact hs (kk_it6 F n) (fun x0 x1 x2 x3 x4 x5 h => ih h) x0 x1 x2 x3 x4 x5 h
/-- a loop: an invariant and a measure that falls -/
theorem kk_lpI6 {α0 : Type} {α1 : Type} {α2 : Type} {α3 : Type} {α4 : Type} {α5 : Type} {F : (α0 → α1 → α2 → α3 → α4 → α5 → Prop) → α0 → α1 → α2 → α3 → α4 → α5 → Prop} (I : α0 → α1 → α2 → α3 → α4 → α5 → Prop) (μ : α0 → α1 → α2 → α3 → α4 → α5 → Nat) (hs : ∀ rec : α0 → α1 → α2 → α3 → α4 → α5 → Prop, ∀ (x0 : α0) (x1 : α1) (x2 : α2) (x3 : α3) (x4 : α4) (x5 : α5), I x0 x1 x2 x3 x4 x5 → (∀ (x0' : α0) (x1' : α1) (x2' : α2) (x3' : α3) (x4' : α4) (x5' : α5), I x0' x1' x2' x3' x4' x5' → μ x0' x1' x2' x3' x4' x5' < μ x0 x1 x2 x3 x4 x5 → rec x0' x1' x2' x3' x4' x5') → F rec x0 x1 x2 x3 x4 x5) {x0 : α0} {x1 : α1} {x2 : α2} {x3 : α3} {x4 : α4} {x5 : α5} (h : I x0 x1 x2 x3 x4 x5) : kk_lp6 F x0 x1 x2 x3 x4 x5 := by
  have key : ∀ n, ∀ (x0 : α0) (x1 : α1) (x2 : α2) (x3 : α3) (x4 : α4) (x5 : α5), I x0 x1 x2 x3 x4 x5 → μ x0 x1 x2 x3 x4 x5 < n → kk_it6 F n x0 x1 x2 x3 x4 x5 := by
    intro n
    induction n with
    | zero => intro x0 x1 x2 x3 x4 x5 _ h0; exact absurd h0 (Nat.not_lt_zero _)
    | succ n ih => exact fun x0 x1 x2 x3 x4 x5 h1 h2 => hs (kk_it6 F n) x0 x1 x2 x3 x4 x5 h1 (fun x0' x1' x2' x3' x4' x5' h3 h4 => ih x0' x1' x2' x3' x4' x5' h3 (by omega))
  exact ⟨μ x0 x1 x2 x3 x4 x5 + 1, key _ x0 x1 x2 x3 x4 x5 h (Nat.lt_succ_self _)⟩
def kk_j7 {α0 : Type} {α1 : Type} {α2 : Type} {α3 : Type} {α4 : Type} {α5 : Type} {α6 : Type} (K : α0 → α1 → α2 → α3 → α4 → α5 → α6 → Prop) (B : (α0 → α1 → α2 → α3 → α4 → α5 → α6 → Prop) → Prop) : Prop := B K
theorem kk_jW7 {α0 : Type} {α1 : Type} {α2 : Type} {α3 : Type} {α4 : Type} {α5 : Type} {α6 : Type} {K P : α0 → α1 → α2 → α3 → α4 → α5 → α6 → Prop} {B : (α0 → α1 → α2 → α3 → α4 → α5 → α6 → Prop) → Prop} {G : Prop} (h : kk_j7 K B) (hJ : ∀ (x0 : α0) (x1 : α1) (x2 : α2) (x3 : α3) (x4 : α4) (x5 : α5) (x6 : α6), K x0 x1 x2 x3 x4 x5 x6 → P x0 x1 x2 x3 x4 x5 x6) (hb : ∀ J : α0 → α1 → α2 → α3 → α4 → α5 → α6 → Prop, (∀ (x0 : α0) (x1 : α1) (x2 : α2) (x3 : α3) (x4 : α4) (x5 : α5) (x6 : α6), J x0 x1 x2 x3 x4 x5 x6 → P x0 x1 x2 x3 x4 x5 x6) → B J → G) : G := hb K hJ h
def kk_it7 {α0 : Type} {α1 : Type} {α2 : Type} {α3 : Type} {α4 : Type} {α5 : Type} {α6 : Type} (F : (α0 → α1 → α2 → α3 → α4 → α5 → α6 → Prop) → α0 → α1 → α2 → α3 → α4 → α5 → α6 → Prop) : Nat → α0 → α1 → α2 → α3 → α4 → α5 → α6 → Prop
  | 0 => fun _ _ _ _ _ _ _ => False
  | n + 1 => F (kk_it7 F n)
def kk_lp7 {α0 : Type} {α1 : Type} {α2 : Type} {α3 : Type} {α4 : Type} {α5 : Type} {α6 : Type} (F : (α0 → α1 → α2 → α3 → α4 → α5 → α6 → Prop) → α0 → α1 → α2 → α3 → α4 → α5 → α6 → Prop) (x0 : α0) (x1 : α1) (x2 : α2) (x3 : α3) (x4 : α4) (x5 : α5) (x6 : α6) : Prop := ∃ n, kk_it7 F n x0 x1 x2 x3 x4 x5 x6
theorem kk_lpW7 {α0 : Type} {α1 : Type} {α2 : Type} {α3 : Type} {α4 : Type} {α5 : Type} {α6 : Type} {F : (α0 → α1 → α2 → α3 → α4 → α5 → α6 → Prop) → α0 → α1 → α2 → α3 → α4 → α5 → α6 → Prop} {P : α0 → α1 → α2 → α3 → α4 → α5 → α6 → Prop} (hs : ∀ rec : α0 → α1 → α2 → α3 → α4 → α5 → α6 → Prop, (∀ (x0 : α0) (x1 : α1) (x2 : α2) (x3 : α3) (x4 : α4) (x5 : α5) (x6 : α6), rec x0 x1 x2 x3 x4 x5 x6 → P x0 x1 x2 x3 x4 x5 x6) → ∀ (x0 : α0) (x1 : α1) (x2 : α2) (x3 : α3) (x4 : α4) (x5 : α5) (x6 : α6), F rec x0 x1 x2 x3 x4 x5 x6 → P x0 x1 x2 x3 x4 x5 x6) {x0 : α0} {x1 : α1} {x2 : α2} {x3 : α3} {x4 : α4} {x5 : α5} {x6 : α6} (h : kk_lp7 F x0 x1 x2 x3 x4 x5 x6) : P x0 x1 x2 x3 x4 x5 x6 := by
  obtain ⟨n, h⟩ := h
  revert h
  revert x0 x1 x2 x3 x4 x5 x6
  induction n with
  | zero => intro x0 x1 x2 x3 x4 x5 x6 h; exact h.elim
  | succ n ih => intro x0 x1 x2 x3 x4 x5 x6 h; exact hs (kk_it7 F n) (fun x0 x1 x2 x3 x4 x5 x6 h => ih h) x0 x1 x2 x3 x4 x5 x6 h
/-- a loop: an invariant and a measure that falls -/
theorem kk_lpI7 {α0 : Type} {α1 : Type} {α2 : Type} {α3 : Type} {α4 : Type} {α5 : Type} {α6 : Type} {F : (α0 → α1 → α2 → α3 → α4 → α5 → α6 → Prop) → α0 → α1 → α2 → α3 → α4 → α5 → α6 → Prop} (I : α0 → α1 → α2 → α3 → α4 → α5 → α6 → Prop) (μ : α0 → α1 → α2 → α3 → α4 → α5 → α6 → Nat) (hs : ∀ rec : α0 → α1 → α2 → α3 → α4 → α5 → α6 → Prop, ∀ (x0 : α0) (x1 : α1) (x2 : α2) (x3 : α3) (x4 : α4) (x5 : α5) (x6 : α6), I x0 x1 x2 x3 x4 x5 x6 → (∀ (x0' : α0) (x1' : α1) (x2' : α2) (x3' : α3) (x4' : α4) (x5' : α5) (x6' : α6), I x0' x1' x2' x3' x4' x5' x6' → μ x0' x1' x2' x3' x4' x5' x6' < μ x0 x1 x2 x3 x4 x5 x6 → rec x0' x1' x2' x3' x4' x5' x6') → F rec x0 x1 x2 x3 x4 x5 x6) {x0 : α0} {x1 : α1} {x2 : α2} {x3 : α3} {x4 : α4} {x5 : α5} {x6 : α6} (h : I x0 x1 x2 x3 x4 x5 x6) : kk_lp7 F x0 x1 x2 x3 x4 x5 x6 := by
  have key : ∀ n, ∀ (x0 : α0) (x1 : α1) (x2 : α2) (x3 : α3) (x4 : α4) (x5 : α5) (x6 : α6), I x0 x1 x2 x3 x4 x5 x6 → μ x0 x1 x2 x3 x4 x5 x6 < n → kk_it7 F n x0 x1 x2 x3 x4 x5 x6 := by
    intro n
    induction n with
    | zero => intro x0 x1 x2 x3 x4 x5 x6 _ h0; exact absurd h0 (Nat.not_lt_zero _)
    | succ n ih => exact fun x0 x1 x2 x3 x4 x5 x6 h1 h2 => hs (kk_it7 F n) x0 x1 x2 x3 x4 x5 x6 h1 (fun x0' x1' x2' x3' x4' x5' x6' h3 h4 => ih x0' x1' x2' x3' x4' x5' x6' h3 (by omega))
  exact ⟨μ x0 x1 x2 x3 x4 x5 x6 + 1, key _ x0 x1 x2 x3 x4 x5 x6 h (Nat.lt_succ_self _)⟩
def kk_j8 {α0 : Type} {α1 : Type} {α2 : Type} {α3 : Type} {α4 : Type} {α5 : Type} {α6 : Type} {α7 : Type} (K : α0 → α1 → α2 → α3 → α4 → α5 → α6 → α7 → Prop) (B : (α0 → α1 → α2 → α3 → α4 → α5 → α6 → α7 → Prop) → Prop) : Prop := B K
theorem kk_jW8 {α0 : Type} {α1 : Type} {α2 : Type} {α3 : Type} {α4 : Type} {α5 : Type} {α6 : Type} {α7 : Type} {K P : α0 → α1 → α2 → α3 → α4 → α5 → α6 → α7 → Prop} {B : (α0 → α1 → α2 → α3 → α4 → α5 → α6 → α7 → Prop) → Prop} {G : Prop} (h : kk_j8 K B) (hJ : ∀ (x0 : α0) (x1 : α1) (x2 : α2) (x3 : α3) (x4 : α4) (x5 : α5) (x6 : α6) (x7 : α7), K x0 x1 x2 x3 x4 x5 x6 x7 → P x0 x1 x2 x3 x4 x5 x6 x7) (hb : ∀ J : α0 → α1 → α2 → α3 → α4 → α5 → α6 → α7 → Prop, (∀ (x0 : α0) (x1 : α1) (x2 : α2) (x3 : α3) (x4 : α4) (x5 : α5) (x6 : α6) (x7 : α7), J x0 x1 x2 x3 x4 x5 x6 x7 → P x0 x1 x2 x3 x4 x5 x6 x7) → B J → G) : G := hb K hJ h
def kk_it8 {α0 : Type} {α1 : Type} {α2 : Type} {α3 : Type} {α4 : Type} {α5 : Type} {α6 : Type} {α7 : Type} (F : (α0 → α1 → α2 → α3 → α4 → α5 → α6 → α7 → Prop) → α0 → α1 → α2 → α3 → α4 → α5 → α6 → α7 → Prop) : Nat → α0 → α1 → α2 → α3 → α4 → α5 → α6 → α7 → Prop
  | 0 => fun _ _ _ _ _ _ _ _ => False
  | n + 1 => F (kk_it8 F n)
def kk_lp8 {α0 : Type} {α1 : Type} {α2 : Type} {α3 : Type} {α4 : Type} {α5 : Type} {α6 : Type} {α7 : Type} (F : (α0 → α1 → α2 → α3 → α4 → α5 → α6 → α7 → Prop) → α0 → α1 → α2 → α3 → α4 → α5 → α6 → α7 → Prop) (x0 : α0) (x1 : α1) (x2 : α2) (x3 : α3) (x4 : α4) (x5 : α5) (x6 : α6) (x7 : α7) : Prop := ∃ n, kk_it8 F n x0 x1 x2 x3 x4 x5 x6 x7
theorem kk_lpW8 {α0 : Type} {α1 : Type} {α2 : Type} {α3 : Type} {α4 : Type} {α5 : Type} {α6 : Type} {α7 : Type} {F : (α0 → α1 → α2 → α3 → α4 → α5 → α6 → α7 → Prop) → α0 → α1 → α2 → α3 → α4 → α5 → α6 → α7 → Prop} {P : α0 → α1 → α2 → α3 → α4 → α5 → α6 → α7 → Prop} (hs : ∀ rec : α0 → α1 → α2 → α3 → α4 → α5 → α6 → α7 → Prop, (∀ (x0 : α0) (x1 : α1) (x2 : α2) (x3 : α3) (x4 : α4) (x5 : α5) (x6 : α6) (x7 : α7), rec x0 x1 x2 x3 x4 x5 x6 x7 → P x0 x1 x2 x3 x4 x5 x6 x7) → ∀ (x0 : α0) (x1 : α1) (x2 : α2) (x3 : α3) (x4 : α4) (x5 : α5) (x6 : α6) (x7 : α7), F rec x0 x1 x2 x3 x4 x5 x6 x7 → P x0 x1 x2 x3 x4 x5 x6 x7) {x0 : α0} {x1 : α1} {x2 : α2} {x3 : α3} {x4 : α4} {x5 : α5} {x6 : α6} {x7 : α7} (h : kk_lp8 F x0 x1 x2 x3 x4 x5 x6 x7) : P x0 x1 x2 x3 x4 x5 x6 x7 := by
  obtain ⟨n, h⟩ := h
  revert h
  revert x0 x1 x2 x3 x4 x5 x6 x7
  induction n with
  | zero => intro x0 x1 x2 x3 x4 x5 x6 x7 h; exact h.elim
  | succ n ih => intro x0 x1 x2 x3 x4 x5 x6 x7 h; exact hs (kk_it8 F n) (fun x0 x1 x2 x3 x4 x5 x6 x7 h => ih h) x0 x1 x2 x3 x4 x5 x6 x7 h
/-- a loop: an invariant and a measure that falls -/
theorem kk_lpI8 {α0 : Type} {α1 : Type} {α2 : Type} {α3 : Type} {α4 : Type} {α5 : Type} {α6 : Type} {α7 : Type} {F : (α0 → α1 → α2 → α3 → α4 → α5 → α6 → α7 → Prop) → α0 → α1 → α2 → α3 → α4 → α5 → α6 → α7 → Prop} (I : α0 → α1 → α2 → α3 → α4 → α5 → α6 → α7 → Prop) (μ : α0 → α1 → α2 → α3 → α4 → α5 → α6 → α7 → Nat) (hs : ∀ rec : α0 → α1 → α2 → α3 → α4 → α5 → α6 → α7 → Prop, ∀ (x0 : α0) (x1 : α1) (x2 : α2) (x3 : α3) (x4 : α4) (x5 : α5) (x6 : α6) (x7 : α7), I x0 x1 x2 x3 x4 x5 x6 x7 → (∀ (x0' : α0) (x1' : α1) (x2' : α2) (x3' : α3) (x4' : α4) (x5' : α5) (x6' : α6) (x7' : α7), I x0' x1' x2' x3' x4' x5' x6' x7' → μ x0' x1' x2' x3' x4' x5' x6' x7' < μ x0 x1 x2 x3 x4 x5 x6 x7 → rec x0' x1' x2' x3' x4' x5' x6' x7') → F rec x0 x1 x2 x3 x4 x5 x6 x7) {x0 : α0} {x1 : α1} {x2 : α2} {x3 : α3} {x4 : α4} {x5 : α5} {x6 : α6} {x7 : α7} (h : I x0 x1 x2 x3 x4 x5 x6 x7) : kk_lp8 F x0 x1 x2 x3 x4 x5 x6 x7 := by
  have key : ∀ n, ∀ (x0 : α0) (x1 : α1) (x2 : α2) (x3 : α3) (x4 : α4) (x5 : α5) (x6 : α6) (x7 : α7), I x0 x1 x2 x3 x4 x5 x6 x7 → μ x0 x1 x2 x3 x4 x5 x6 x7 < n → kk_it8 F n x0 x1 x2 x3 x4 x5 x6 x7 := by
    intro n
    induction n with
    | zero => intro x0 x1 x2 x3 x4 x5 x6 x7 _ h0; exact absurd h0 (Nat.not_lt_zero _)
    | succ n ih => exact fun x0 x1 x2 x3 x4 x5 x6 x7 h1 h2 => hs (kk_it8 F n) x0 x1 x2 x3 x4 x5 x6 x7 h1 (fun x0' x1' x2' x3' x4' x5' x6' x7' h3 h4 => ih x0' x1' x2' x3' x4' x5' x6' x7' h3 (by omega))
  exact ⟨μ x0 x1 x2 x3 x4 x5 x6 x7 + 1, key _ x0 x1 x2 x3 x4 x5 x6 x7 h (Nat.lt_succ_self _)⟩
def kk_j9 {α0 : Type} {α1 : Type} {α2 : Type} {α3 : Type} {α4 : Type} {α5 : Type} {α6 : Type} {α7 : Type} {α8 : Type} (K : α0 → α1 → α2 → α3 → α4 → α5 → α6 → α7 → α8 → Prop) (B : (α0 → α1 → α2 → α3 → α4 → α5 → α6 → α7 → α8 → Prop) → Prop) : Prop := B K
theorem kk_jW9 {α0 : Type} {α1 : Type} {α2 : Type} {α3 : Type} {α4 : Type} {α5 : Type} {α6 : Type} {α7 : Type} {α8 : Type} {K P : α0 → α1 → α2 → α3 → α4 → α5 → α6 → α7 → α8 → Prop} {B : (α0 → α1 → α2 → α3 → α4 → α5 → α6 → α7 → α8 → Prop) → Prop} {G : Prop} (h : kk_j9 K B) (hJ : ∀ (x0 : α0) (x1 : α1) (x2 : α2) (x3 : α3) (x4 : α4) (x5 : α5) (x6 : α6) (x7 : α7) (x8 : α8), K x0 x1 x2 x3 x4 x5 x6 x7 x8 → P x0 x1 x2 x3 x4 x5 x6 x7 x8) (hb : ∀ J : α0 → α1 → α2 → α3 → α4 → α5 → α6 → α7 → α8 → Prop, (∀ (x0 : α0) (x1 : α1) (x2 : α2) (x3 : α3) (x4 : α4) (x5 : α5) (x6 : α6) (x7 : α7) (x8 : α8), J x0 x1 x2 x3 x4 x5 x6 x7 x8 → P x0 x1 x2 x3 x4 x5 x6 x7 x8) → B J → G) : G := hb K hJ h
def kk_it9 {α0 : Type} {α1 : Type} {α2 : Type} {α3 : Type} {α4 : Type} {α5 : Type} {α6 : Type} {α7 : Type} {α8 : Type} (F : (α0 → α1 → α2 → α3 → α4 → α5 → α6 → α7 → α8 → Prop) → α0 → α1 → α2 → α3 → α4 → α5 → α6 → α7 → α8 → Prop) : Nat → α0 → α1 → α2 → α3 → α4 → α5 → α6 → α7 → α8 → Prop
  | 0 => fun _ _ _ _ _ _ _ _ _ => False
  | n + 1 => F (kk_it9 F n)
def kk_lp9 {α0 : Type} {α1 : Type} {α2 : Type} {α3 : Type} {α4 : Type} {α5 : Type} {α6 : Type} {α7 : Type} {α8 : Type} (F : (α0 → α1 → α2 → α3 → α4 → α5 → α6 → α7 → α8 → Prop) → α0 → α1 → α2 → α3 → α4 → α5 → α6 → α7 → α8 → Prop) (x0 : α0) (x1 : α1) (x2 : α2) (x3 : α3) (x4 : α4) (x5 : α5) (x6 : α6) (x7 : α7) (x8 : α8) : Prop := ∃ n, kk_it9 F n x0 x1 x2 x3 x4 x5 x6 x7 x8
theorem kk_lpW9 {α0 : Type} {α1 : Type} {α2 : Type} {α3 : Type} {α4 : Type} {α5 : Type} {α6 : Type} {α7 : Type} {α8 : Type} {F : (α0 → α1 → α2 → α3 → α4 → α5 → α6 → α7 → α8 → Prop) → α0 → α1 → α2 → α3 → α4 → α5 → α6 → α7 → α8 → Prop} {P : α0 → α1 → α2 → α3 → α4 → α5 → α6 → α7 → α8 → Prop} (hs : ∀ rec : α0 → α1 → α2 → α3 → α4 → α5 → α6 → α7 → α8 → Prop, (∀ (x0 : α0) (x1 : α1) (x2 : α2) (x3 : α3) (x4 : α4) (x5 : α5) (x6 : α6) (x7 : α7) (x8 : α8), rec x0 x1 x2 x3 x4 x5 x6 x7 x8 → P x0 x1 x2 x3 x4 x5 x6 x7 x8) → ∀ (x0 : α0) (x1 : α1) (x2 : α2) (x3 : α3) (x4 : α4) (x5 : α5) (x6 : α6) (x7 : α7) (x8 : α8), F rec x0 x1 x2 x3 x4 x5 x6 x7 x8 → P x0 x1 x2 x3 x4 x5 x6 x7 x8) {x0 : α0} {x1 : α1} {x2 : α2} {x3 : α3} {x4 : α4} {x5 : α5} {x6 : α6} {x7 : α7} {x8 : α8} (h : kk_lp9 F x0 x1 x2 x3 x4 x5 x6 x7 x8) : P x0 x1 x2 x3 x4 x5 x6 x7 x8 := by
  obtain ⟨n, h⟩ := h
  revert h
  revert x0 x1 x2 x3 x4 x5 x6 x7 x8
  induction n with
  | zero => intro x0 x1 x2 x3 x4 x5 x6 x7 x8 h; exact h.elim
  | succ n ih => intro x0 x1 x2 x3 x4 x5 x6 x7 x8 h; exact hs (kk_it9 F n) (fun x0 x1 x2 x3 x4 x5 x6 x7 x8 h => ih h) x0 x1 x2 x3 x4 x5 x6 x7 x8 h
/-- a loop: an invariant and a measure that falls -/
theorem kk_lpI9 {α0 : Type} {α1 : Type} {α2 : Type} {α3 : Type} {α4 : Type} {α5 : Type} {α6 : Type} {α7 : Type} {α8 : Type} {F : (α0 → α1 → α2 → α3 → α4 → α5 → α6 → α7 → α8 → Prop) → α0 → α1 → α2 → α3 → α4 → α5 → α6 → α7 → α8 → Prop} (I : α0 → α1 → α2 → α3 → α4 → α5 → α6 → α7 → α8 → Prop) (μ : α0 → α1 → α2 → α3 → α4 → α5 → α6 → α7 → α8 → Nat) (hs : ∀ rec : α0 → α1 → α2 → α3 → α4 → α5 → α6 → α7 → α8 → Prop, ∀ (x0 : α0) (x1 : α1) (x2 : α2) (x3 : α3) (x4 : α4) (x5 : α5) (x6 : α6) (x7 : α7) (x8 : α8), I x0 x1 x2 x3 x4 x5 x6 x7 x8 → (∀ (x0' : α0) (x1' : α1) (x2' : α2) (x3' : α3) (x4' : α4) (x5' : α5) (x6' : α6) (x7' : α7) (x8' : α8), I x0' x1' x2' x3' x4' x5' x6' x7' x8' → μ x0' x1' x2' x3' x4' x5' x6' x7' x8' < μ x0 x1 x2 x3 x4 x5 x6 x7 x8 → rec x0' x1' x2' x3' x4' x5' x6' x7' x8') → F rec x0 x1 x2 x3 x4 x5 x6 x7 x8) {x0 : α0} {x1 : α1} {x2 : α2} {x3 : α3} {x4 : α4} {x5 : α5} {x6 : α6} {x7 : α7} {x8 : α8} (h : I x0 x1 x2 x3 x4 x5 x6 x7 x8) : kk_lp9 F x0 x1 x2 x3 x4 x5 x6 x7 x8 := by
  have key : ∀ n, ∀ (x0 : α0) (x1 : α1) (x2 : α2) (x3 : α3) (x4 : α4) (x5 : α5) (x6 : α6) (x7 : α7) (x8 : α8), I x0 x1 x2 x3 x4 x5 x6 x7 x8 → μ x0 x1 x2 x3 x4 x5 x6 x7 x8 < n → kk_it9 F n x0 x1 x2 x3 x4 x5 x6 x7 x8 := by
    intro n
    induction n with
    | zero => intro x0 x1 x2 x3 x4 x5 x6 x7 x8 _ h0; exact absurd h0 (Nat.not_lt_zero _)
    | succ n ih => exact fun x0 x1 x2 x3 x4 x5 x6 x7 x8 h1 h2 => hs (kk_it9 F n) x0 x1 x2 x3 x4 x5 x6 x7 x8 h1 (fun x0' x1' x2' x3' x4' x5' x6' x7' x8' h3 h4 => ih x0' x1' x2' x3' x4' x5' x6' x7' x8' h3 (by omega))
  exact ⟨μ x0 x1 x2 x3 x4 x5 x6 x7 x8 + 1, key _ x0 x1 x2 x3 x4 x5 x6 x7 x8 h (Nat.lt_succ_self _)⟩
def kk_j10 {α0 : Type} {α1 : Type} {α2 : Type} {α3 : Type} {α4 : Type} {α5 : Type} {α6 : Type} {α7 : Type} {α8 : Type} {α9 : Type} (K : α0 → α1 → α2 → α3 → α4 → α5 → α6 → α7 → α8 → α9 → Prop) (B : (α0 → α1 → α2 → α3 → α4 → α5 → α6 → α7 → α8 → α9 → Prop) → Prop) : Prop := B K
theorem kk_jW10 {α0 : Type} {α1 : Type} {α2 : Type} {α3 : Type} {α4 : Type} {α5 : Type} {α6 : Type} {α7 : Type} {α8 : Type} {α9 : Type} {K P : α0 → α1 → α2 → α3 → α4 → α5 → α6 → α7 → α8 → α9 → Prop} {B : (α0 → α1 → α2 → α3 → α4 → α5 → α6 → α7 → α8 → α9 → Prop) → Prop} {G : Prop} (h : kk_j10 K B) (hJ : ∀ (x0 : α0) (x1 : α1) (x2 : α2) (x3 : α3) (x4 : α4) (x5 : α5) (x6 : α6) (x7 : α7) (x8 : α8) (x9 : α9), K x0 x1 x2 x3 x4 x5 x6 x7 x8 x9 → P x0 x1 x2 x3 x4 x5 x6 x7 x8 x9) (hb : ∀ J : α0 → α1 → α2 → α3 → α4 → α5 → α6 → α7 → α8 → α9 → Prop, (∀ (x0 : α0) (x1 : α1) (x2 : α2) (x3 : α3) (x4 : α4) (x5 : α5) (x6 : α6) (x7 : α7) (x8 : α8) (x9 : α9), J x0 x1 x2 x3 x4 x5 x6 x7 x8 x9 → P x0 x1 x2 x3 x4 x5 x6 x7 x8 x9) → B J → G) : G := hb K hJ h
def kk_it10 {α0 : Type} {α1 : Type} {α2 : Type} {α3 : Type} {α4 : Type} {α5 : Type} {α6 : Type} {α7 : Type} {α8 : Type} {α9 : Type} (F : (α0 → α1 → α2 → α3 → α4 → α5 → α6 → α7 → α8 → α9 → Prop) → α0 → α1 → α2 → α3 → α4 → α5 → α6 → α7 → α8 → α9 → Prop) : Nat → α0 → α1 → α2 → α3 → α4 → α5 → α6 → α7 → α8 → α9 → Prop
  | 0 => fun _ _ _ _ _ _ _ _ _ _ => False
  | n + 1 => F (kk_it10 F n)
def kk_lp10 {α0 : Type} {α1 : Type} {α2 : Type} {α3 : Type} {α4 : Type} {α5 : Type} {α6 : Type} {α7 : Type} {α8 : Type} {α9 : Type} (F : (α0 → α1 → α2 → α3 → α4 → α5 → α6 → α7 → α8 → α9 → Prop) → α0 → α1 → α2 → α3 → α4 → α5 → α6 → α7 → α8 → α9 → Prop) (x0 : α0) (x1 : α1) (x2 : α2) (x3 : α3) (x4 : α4) (x5 : α5) (x6 : α6) (x7 : α7) (x8 : α8) (x9 : α9) : Prop := ∃ n, kk_it10 F n x0 x1 x2 x3 x4 x5 x6 x7 x8 x9
theorem kk_lpW10 {α0 : Type} {α1 : Type} {α2 : Type} {α3 : Type} {α4 : Type} {α5 : Type} {α6 : Type} {α7 : Type} {α8 : Type} {α9 : Type} {F : (α0 → α1 → α2 → α3 → α4 → α5 → α6 → α7 → α8 → α9 → Prop) → α0 → α1 → α2 → α3 → α4 → α5 → α6 → α7 → α8 → α9 → Prop} {P : α0 → α1 → α2 → α3 → α4 → α5 → α6 → α7 → α8 → α9 → Prop} (hs : ∀ rec : α0 → α1 → α2 → α3 → α4 → α5 → α6 → α7 → α8 → α9 → Prop, (∀ (x0 : α0) (x1 : α1) (x2 : α2) (x3 : α3) (x4 : α4) (x5 : α5) (x6 : α6) (x7 : α7) (x8 : α8) (x9 : α9), rec x0 x1 x2 x3 x4 x5 x6 x7 x8 x9 → P x0 x1 x2 x3 x4 x5 x6 x7 x8 x9) → ∀ (x0 : α0) (x1 : α1) (x2 : α2) (x3 : α3) (x4 : α4) (x5 : α5) (x6 : α6) (x7 : α7) (x8 : α8) (x9 : α9), F rec x0 x1 x2 x3 x4 x5 x6 x7 x8 x9 → P x0 x1 x2 x3 x4 x5 x6 x7 x8 x9) {x0 : α0} {x1 : α1} {x2 : α2} {x3 : α3} {x4 : α4} {x5 : α5} {x6 : α6} {x7 : α7} {x8 : α8} {x9 : α9} (h : kk_lp10 F x0 x1 x2 x3 x4 x5 x6 x7 x8 x9) : P x0 x1 x2 x3 x4 x5 x6 x7 x8 x9 := by
  obtain ⟨n, h⟩ := h
  revert h
  revert x0 x1 x2 x3 x4 x5 x6 x7 x8 x9
  induction n with
  | zero => intro x0 x1 x2 x3 x4 x5 x6 x7 x8 x9 h; exact h.elim
  | succ n ih => intro x0 x1 x2 x3 x4 x5 x6 x7 x8 x9 h; exact hs (kk_it10 F n) (fun x0 x1 x2 x3 x4 x5 x6 x7 x8 x9 h => ih h) x0 x1 x2 x3 x4 x5 x6 x7 x8 x9 h
/-- a loop: an invariant and a measure that falls -/
theorem kk_lpI10 {α0 : Type} {α1 : Type} {α2 : Type} {α3 : Type} {α4 : Type} {α5 : Type} {α6 : Type} {α7 : Type} {α8 : Type} {α9 : Type} {F : (α0 → α1 → α2 → α3 → α4 → α5 → α6 → α7 → α8 → α9 → Prop) → α0 → α1 → α2 → α3 → α4 → α5 → α6 → α7 → α8 → α9 → Prop} (I : α0 → α1 → α2 → α3 → α4 → α5 → α6 → α7 → α8 → α9 → Prop) (μ : α0 → α1 → α2 → α3 → α4 → α5 → α6 → α7 → α8 → α9 → Nat) (hs : ∀ rec : α0 → α1 → α2 → α3 → α4 → α5 → α6 → α7 → α8 → α9 → Prop, ∀ (x0 : α0) (x1 : α1) (x2 : α2) (x3 : α3) (x4 : α4) (x5 : α5) (x6 : α6) (x7 : α7) (x8 : α8) (x9 : α9), I x0 x1 x2 x3 x4 x5 x6 x7 x8 x9 → (∀ (x0' : α0) (x1' : α1) (x2' : α2) (x3' : α3) (x4' : α4) (x5' : α5) (x6' : α6) (x7' : α7) (x8' : α8) (x9' : α9), I x0' x1' x2' x3' x4' x5' x6' x7' x8' x9' → μ x0' x1' x2' x3' x4' x5' x6' x7' x8' x9' < μ x0 x1 x2 x3 x4 x5 x6 x7 x8 x9 → rec x0' x1' x2' x3' x4' x5' x6' x7' x8' x9') → F rec x0 x1 x2 x3 x4 x5 x6 x7 x8 x9) {x0 : α0} {x1 : α1} {x2 : α2} {x3 : α3} {x4 : α4} {x5 : α5} {x6 : α6} {x7 : α7} {x8 : α8} {x9 : α9} (h : I x0 x1 x2 x3 x4 x5 x6 x7 x8 x9) : kk_lp10 F x0 x1 x2 x3 x4 x5 x6 x7 x8 x9 := by
  have key : ∀ n, ∀ (x0 : α0) (x1 : α1) (x2 : α2) (x3 : α3) (x4 : α4) (x5 : α5) (x6 : α6) (x7 : α7) (x8 : α8) (x9 : α9), I x0 x1 x2 x3 x4 x5 x6 x7 x8 x9 → μ x0 x1 x2 x3 x4 x5 x6 x7 x8 x9 < n → kk_it10 F n x0 x1 x2 x3 x4 x5 x6 x7 x8 x9 := by
    intro n
    induction n with
    | zero => intro x0 x1 x2 x3 x4 x5 x6 x7 x8 x9 _ h0; exact absurd h0 (Nat.not_lt_zero _)
    | succ n ih => exact fun x0 x1 x2 x3 x4 x5 x6 x7 x8 x9 h1 h2 => hs (kk_it10 F n) x0 x1 x2 x3 x4 x5 x6 x7 x8 x9 h1 (fun x0' x1' x2' x3' x4' x5' x6' x7' x8' x9' h3 h4 => ih x0' x1' x2' x3' x4' x5' x6' x7' x8' x9' h3 (by omega))
  exact ⟨μ x0 x1 x2 x3 x4 x5 x6 x7 x8 x9 + 1, key _ x0 x1 x2 x3 x4 x5 x6 x7 x8 x9 h (Nat.lt_succ_self _)⟩
def kk_j11 {α0 : Type} {α1 : Type} {α2 : Type} {α3 : Type} {α4 : Type} {α5 : Type} {α6 : Type} {α7 : Type} {α8 : Type} {α9 : Type} {α10 : Type} (K : α0 → α1 → α2 → α3 → α4 → α5 → α6 → α7 → α8 → α9 → α10 → Prop) (B : (α0 → α1 → α2 → α3 → α4 → α5 → α6 → α7 → α8 → α9 → α10 → Prop) → Prop) : Prop := B K
theorem kk_jW11 {α0 : Type} {α1 : Type} {α2 : Type} {α3 : Type} {α4 : Type} {α5 : Type} {α6 : Type} {α7 : Type} {α8 : Type} {α9 : Type} {α10 : Type} {K P : α0 → α1 → α2 → α3 → α4 → α5 → α6 → α7 → α8 → α9 → α10 → Prop} {B : (α0 → α1 → α2 → α3 → α4 → α5 → α6 → α7 → α8 → α9 → α10 → Prop) → Prop} {G : Prop} (h : kk_j11 K B) (hJ : ∀ (x0 : α0) (x1 : α1) (x2 : α2) (x3 : α3) (x4 : α4) (x5 : α5) (x6 : α6) (x7 : α7) (x8 : α8) (x9 : α9) (x10 : α10), K x0 x1 x2 x3 x4 x5 x6 x7 x8 x9 x10 → P x0 x1 x2 x3 x4 x5 x6 x7 x8 x9 x10) (hb : ∀ J : α0 → α1 → α2 → α3 → α4 → α5 → α6 → α7 → α8 → α9 → α10 → Prop, (∀ (x0 : α0) (x1 : α1) (x2 : α2) (x3 : α3) (x4 : α4) (x5 : α5) (x6 : α6) (x7 : α7) (x8 : α8) (x9 : α9) (x10 : α10), J x0 x1 x2 x3 x4 x5 x6 x7 x8 x9 x10 → P x0 x1 x2 x3 x4 x5 x6 x7 x8 x9 x10) → B J → G) : G := hb K hJ h
def kk_it11 {α0 : Type} {α1 : Type} {α2 : Type} {α3 : Type} {α4 : Type} {α5 : Type} {α6 : Type} {α7 : Type} {α8 : Type} {α9 : Type} {α10 : Type} (F : (α0 → α1 → α2 → α3 → α4 → α5 → α6 → α7 → α8 → α9 → α10 → Prop) → α0 → α1 → α2 → α3 → α4 → α5 → α6 → α7 → α8 → α9 → α10 → Prop) : Nat → α0 → α1 → α2 → α3 → α4 → α5 → α6 → α7 → α8 → α9 → α10 → Prop
  | 0 => fun _ _ _ _ _ _ _ _ _ _ _ => False
  | n + 1 => F (kk_it11 F n)
def kk_lp11 {α0 : Type} {α1 : Type} {α2 : Type} {α3 : Type} {α4 : Type} {α5 : Type} {α6 : Type} {α7 : Type} {α8 : Type} {α9 : Type} {α10 : Type} (F : (α0 → α1 → α2 → α3 → α4 → α5 → α6 → α7 → α8 → α9 → α10 → Prop) → α0 → α1 → α2 → α3 → α4 → α5 → α6 → α7 → α8 → α9 → α10 → Prop) (x0 : α0) (x1 : α1) (x2 : α2) (x3 : α3) (x4 : α4) (x5 : α5) (x6 : α6) (x7 : α7) (x8 : α8) (x9 : α9) (x10 : α10) : Prop := ∃ n, kk_it11 F n x0 x1 x2 x3 x4 x5 x6 x7 x8 x9 x10
theorem kk_lpW11 {α0 : Type} {α1 : Type} {α2 : Type} {α3 : Type} {α4 : Type} {α5 : Type} {α6 : Type} {α7 : Type} {α8 : Type} {α9 : Type} {α10 : Type} {F : (α0 → α1 → α2 → α3 → α4 → α5 → α6 → α7 → α8 → α9 → α10 → Prop) → α0 → α1 → α2 → α3 → α4 → α5 → α6 → α7 → α8 → α9 → α10 → Prop} {P : α0 → α1 → α2 → α3 → α4 → α5 → α6 → α7 → α8 → α9 → α10 → Prop} (hs : ∀ rec : α0 → α1 → α2 → α3 → α4 → α5 → α6 → α7 → α8 → α9 → α10 → Prop, (∀ (x0 : α0) (x1 : α1) (x2 : α2) (x3 : α3) (x4 : α4) (x5 : α5) (x6 : α6) (x7 : α7) (x8 : α8) (x9 : α9) (x10 : α10), rec x0 x1 x2 x3 x4 x5 x6 x7 x8 x9 x10 → P x0 x1 x2 x3 x4 x5 x6 x7 x8 x9 x10) → ∀ (x0 : α0) (x1 : α1) (x2 : α2) (x3 : α3) (x4 : α4) (x5 : α5) (x6 : α6) (x7 : α7) (x8 : α8) (x9 : α9) (x10 : α10), F rec x0 x1 x2 x3 x4 x5 x6 x7 x8 x9 x10 → P x0 x1 x2 x3 x4 x5 x6 x7 x8 x9 x10) {x0 : α0} {x1 : α1} {x2 : α2} {x3 : α3} {x4 : α4} {x5 : α5} {x6 : α6} {x7 : α7} {x8 : α8} {x9 : α9} {x10 : α10} (h : kk_lp11 F x0 x1 x2 x3 x4 x5 x6 x7 x8 x9 x10) : P x0 x1 x2 x3 x4 x5 x6 x7 x8 x9 x10 := by
  obtain ⟨n, h⟩ := h
  revert h
  revert x0 x1 x2 x3 x4 x5 x6 x7 x8 x9 x10
  induction n with
  | zero => intro x0 x1 x2 x3 x4 x5 x6 x7 x8 x9 x10 h; exact h.elim
  | succ n ih => intro x0 x1 x2 x3 x4 x5 x6 x7 x8 x9 x10 h; exact hs (kk_it11 F n) (fun x0 x1 x2 x3 x4 x5 x6 x7 x8 x9 x10 h => ih h) x0 x1 x2 x3 x4 x5 x6 x7 x8 x9 x10 h
/-- a loop: an invariant and a measure that falls -/
theorem kk_lpI11 {α0 : Type} {α1 : Type} {α2 : Type} {α3 : Type} {α4 : Type} {α5 : Type} {α6 : Type} {α7 : Type} {α8 : Type} {α9 : Type} {α10 : Type} {F : (α0 → α1 → α2 → α3 → α4 → α5 → α6 → α7 → α8 → α9 → α10 → Prop) → α0 → α1 → α2 → α3 → α4 → α5 → α6 → α7 → α8 → α9 → α10 → Prop} (I : α0 → α1 → α2 → α3 → α4 → α5 → α6 → α7 → α8 → α9 → α10 → Prop) (μ : α0 → α1 → α2 → α3 → α4 → α5 → α6 → α7 → α8 → α9 → α10 → Nat) (hs : ∀ rec : α0 → α1 → α2 → α3 → α4 → α5 → α6 → α7 → α8 → α9 → α10 → Prop, ∀ (x0 : α0) (x1 : α1) (x2 : α2) (x3 : α3) (x4 : α4) (x5 : α5) (x6 : α6) (x7 : α7) (x8 : α8) (x9 : α9) (x10 : α10), I x0 x1 x2 x3 x4 x5 x6 x7 x8 x9 x10 → (∀ (x0' : α0) (x1' : α1) (x2' : α2) (x3' : α3) (x4' : α4) (x5' : α5) (x6' : α6) (x7' : α7) (x8' : α8) (x9' : α9) (x10' : α10), I x0' x1' x2' x3' x4' x5' x6' x7' x8' x9' x10' → μ x0' x1' x2' x3' x4' x5' x6' x7' x8' x9' x10' < μ x0 x1 x2 x3 x4 x5 x6 x7 x8 x9 x10 → rec x0' x1' x2' x3' x4' x5' x6' x7' x8' x9' x10') → F rec x0 x1 x2 x3 x4 x5 x6 x7 x8 x9 x10) {x0 : α0} {x1 : α1} {x2 : α2} {x3 : α3} {x4 : α4} {x5 : α5} {x6 : α6} {x7 : α7} {x8 : α8} {x9 : α9} {x10 : α10} (h : I x0 x1 x2 x3 x4 x5 x6 x7 x8 x9 x10) : kk_lp11 F x0 x1 x2 x3 x4 x5 x6 x7 x8 x9 x10 := by
  have key : ∀ n, ∀ (x0 : α0) (x1 : α1) (x2 : α2) (x3 : α3) (x4 : α4) (x5 : α5) (x6 : α6) (x7 : α7) (x8 : α8) (x9 : α9) (x10 : α10), I x0 x1 x2 x3 x4 x5 x6 x7 x8 x9 x10 → μ x0 x1 x2 x3 x4 x5 x6 x7 x8 x9 x10 < n → kk_it11 F n x0 x1 x2 x3 x4 x5 x6 x7 x8 x9 x10 := by
    intro n
    induction n with
    | zero => intro x0 x1 x2 x3 x4 x5 x6 x7 x8 x9 x10 _ h0; exact absurd h0 (Nat.not_lt_zero _)
    | succ n ih => exact fun x0 x1 x2 x3 x4 x5 x6 x7 x8 x9 x10 h1 h2 => hs (kk_it11 F n) x0 x1 x2 x3 x4 x5 x6 x7 x8 x9 x10 h1 (fun x0' x1' x2' x3' x4' x5' x6' x7' x8' x9' x10' h3 h4 => ih x0' x1' x2' x3' x4' x5' x6' x7' x8' x9' x10' h3 (by omega))
  exact ⟨μ x0 x1 x2 x3 x4 x5 x6 x7 x8 x9 x10 + 1, key _ x0 x1 x2 x3 x4 x5 x6 x7 x8 x9 x10 h (Nat.lt_succ_self _)⟩
def kk_j12 {α0 : Type} {α1 : Type} {α2 : Type} {α3 : Type} {α4 : Type} {α5 : Type} {α6 : Type} {α7 : Type} {α8 : Type} {α9 : Type} {α10 : Type} {α11 : Type} (K : α0 → α1 → α2 → α3 → α4 → α5 → α6 → α7 → α8 → α9 → α10 → α11 → Prop) (B : (α0 → α1 → α2 → α3 → α4 → α5 → α6 → α7 → α8 → α9 → α10 → α11 → Prop) → Prop) : Prop := B K
theorem kk_jW12 {α0 : Type} {α1 : Type} {α2 : Type} {α3 : Type} {α4 : Type} {α5 : Type} {α6 : Type} {α7 : Type} {α8 : Type} {α9 : Type} {α10 : Type} {α11 : Type} {K P : α0 → α1 → α2 → α3 → α4 → α5 → α6 → α7 → α8 → α9 → α10 → α11 → Prop} {B : (α0 → α1 → α2 → α3 → α4 → α5 → α6 → α7 → α8 → α9 → α10 → α11 → Prop) → Prop} {G : Prop} (h : kk_j12 K B) (hJ : ∀ (x0 : α0) (x1 : α1) (x2 : α2) (x3 : α3) (x4 : α4) (x5 : α5) (x6 : α6) (x7 : α7) (x8 : α8) (x9 : α9) (x10 : α10) (x11 : α11), K x0 x1 x2 x3 x4 x5 x6 x7 x8 x9 x10 x11 → P x0 x1 x2 x3 x4 x5 x6 x7 x8 x9 x10 x11) (hb : ∀ J : α0 → α1 → α2 → α3 → α4 → α5 → α6 → α7 → α8 → α9 → α10 → α11 → Prop, (∀ (x0 : α0) (x1 : α1) (x2 : α2) (x3 : α3) (x4 : α4) (x5 : α5) (x6 : α6) (x7 : α7) (x8 : α8) (x9 : α9) (x10 : α10) (x11 : α11), J x0 x1 x2 x3 x4 x5 x6 x7 x8 x9 x10 x11 → P x0 x1 x2 x3 x4 x5 x6 x7 x8 x9 x10 x11) → B J → G) : G := hb K hJ h
def kk_it12 {α0 : Type} {α1 : Type} {α2 : Type} {α3 : Type} {α4 : Type} {α5 : Type} {α6 : Type} {α7 : Type} {α8 : Type} {α9 : Type} {α10 : Type} {α11 : Type} (F : (α0 → α1 → α2 → α3 → α4 → α5 → α6 → α7 → α8 → α9 → α10 → α11 → Prop) → α0 → α1 → α2 → α3 → α4 → α5 → α6 → α7 → α8 → α9 → α10 → α11 → Prop) : Nat → α0 → α1 → α2 → α3 → α4 → α5 → α6 → α7 → α8 → α9 → α10 → α11 → Prop
  | 0 => fun _ _ _ _ _ _ _ _ _ _ _ _ => False
  | n + 1 => F (kk_it12 F n)
def kk_lp12 {α0 : Type} {α1 : Type} {α2 : Type} {α3 : Type} {α4 : Type} {α5 : Type} {α6 : Type} {α7 : Type} {α8 : Type} {α9 : Type} {α10 : Type} {α11 : Type} (F : (α0 → α1 → α2 → α3 → α4 → α5 → α6 → α7 → α8 → α9 → α10 → α11 → Prop) → α0 → α1 → α2 → α3 → α4 → α5 → α6 → α7 → α8 → α9 → α10 → α11 → Prop) (x0 : α0) (x1 : α1) (x2 : α2) (x3 : α3) (x4 : α4) (x5 : α5) (x6 : α6) (x7 : α7) (x8 : α8) (x9 : α9) (x10 : α10) (x11 : α11) : Prop := ∃ n, kk_it12 F n x0 x1 x2 x3 x4 x5 x6 x7 x8 x9 x10 x11
theorem kk_lpW12 {α0 : Type} {α1 : Type} {α2 : Type} {α3 : Type} {α4 : Type} {α5 : Type} {α6 : Type} {α7 : Type} {α8 : Type} {α9 : Type} {α10 : Type} {α11 : Type} {F : (α0 → α1 → α2 → α3 → α4 → α5 → α6 → α7 → α8 → α9 → α10 → α11 → Prop) → α0 → α1 → α2 → α3 → α4 → α5 → α6 → α7 → α8 → α9 → α10 → α11 → Prop} {P : α0 → α1 → α2 → α3 → α4 → α5 → α6 → α7 → α8 → α9 → α10 → α11 → Prop} (hs : ∀ rec : α0 → α1 → α2 → α3 → α4 → α5 → α6 → α7 → α8 → α9 → α10 → α11 → Prop, (∀ (x0 : α0) (x1 : α1) (x2 : α2) (x3 : α3) (x4 : α4) (x5 : α5) (x6 : α6) (x7 : α7) (x8 : α8) (x9 : α9) (x10 : α10) (x11 : α11), rec x0 x1 x2 x3 x4 x5 x6 x7 x8 x9 x10 x11 → P x0 x1 x2 x3 x4 x5 x6 x7 x8 x9 x10 x11) → ∀ (x0 : α0) (x1 : α1) (x2 : α2) (x3 : α3) (x4 : α4) (x5 : α5) (x6 : α6) (x7 : α7) (x8 : α8) (x9 : α9) (x10 : α10) (x11 : α11), F rec x0 x1 x2 x3 x4 x5 x6 x7 x8 x9 x10 x11 → P x0 x1 x2 x3 x4 x5 x6 x7 x8 x9 x10 x11) {x0 : α0} {x1 : α1} {x2 : α2} {x3 : α3} {x4 : α4} {x5 : α5} {x6 : α6} {x7 : α7} {x8 : α8} {x9 : α9} {x10 : α10} {x11 : α11} (h : kk_lp12 F x0 x1 x2 x3 x4 x5 x6 x7 x8 x9 x10 x11) : P x0 x1 x2 x3 x4 x5 x6 x7 x8 x9 x10 x11 := by
  obtain ⟨n, h⟩ := h
  revert h
  revert x0 x1 x2 x3 x4 x5 x6 x7 x8 x9 x10 x11
  induction n with
  | zero => intro x0 x1 x2 x3 x4 x5 x6 x7 x8 x9 x10 x11 h; exact h.elim
  | succ n ih => intro x0 x1 x2 x3 x4 x5 x6 x7 x8 x9 x10 x11 h; exact hs (kk_it12 F n) (fun x0 x1 x2 x3 x4 x5 x6 x7 x8 x9 x10 x11 h => ih h) x0 x1 x2 x3 x4 x5 x6 x7 x8 x9 x10 x11 h
/-- a loop: an invariant and a measure that falls -/
theorem kk_lpI12 {α0 : Type} {α1 : Type} {α2 : Type} {α3 : Type} {α4 : Type} {α5 : Type} {α6 : Type} {α7 : Type} {α8 : Type} {α9 : Type} {α10 : Type} {α11 : Type} {F : (α0 → α1 → α2 → α3 → α4 → α5 → α6 → α7 → α8 → α9 → α10 → α11 → Prop) → α0 → α1 → α2 → α3 → α4 → α5 → α6 → α7 → α8 → α9 → α10 → α11 → Prop} (I : α0 → α1 → α2 → α3 → α4 → α5 → α6 → α7 → α8 → α9 → α10 → α11 → Prop) (μ : α0 → α1 → α2 → α3 → α4 → α5 → α6 → α7 → α8 → α9 → α10 → α11 → Nat) (hs : ∀ rec : α0 → α1 → α2 → α3 → α4 → α5 → α6 → α7 → α8 → α9 → α10 → α11 → Prop, ∀ (x0 : α0) (x1 : α1) (x2 : α2) (x3 : α3) (x4 : α4) (x5 : α5) (x6 : α6) (x7 : α7) (x8 : α8) (x9 : α9) (x10 : α10) (x11 : α11), I x0 x1 x2 x3 x4 x5 x6 x7 x8 x9 x10 x11 → (∀ (x0' : α0) (x1' : α1) (x2' : α2) (x3' : α3) (x4' : α4) (x5' : α5) (x6' : α6) (x7' : α7) (x8' : α8) (x9' : α9) (x10' : α10) (x11' : α11), I x0' x1' x2' x3' x4' x5' x6' x7' x8' x9' x10' x11' → μ x0' x1' x2' x3' x4' x5' x6' x7' x8' x9' x10' x11' < μ x0 x1 x2 x3 x4 x5 x6 x7 x8 x9 x10 x11 → rec x0' x1' x2' x3' x4' x5' x6' x7' x8' x9' x10' x11') → F rec x0 x1 x2 x3 x4 x5 x6 x7 x8 x9 x10 x11) {x0 : α0} {x1 : α1} {x2 : α2} {x3 : α3} {x4 : α4} {x5 : α5} {x6 : α6} {x7 : α7} {x8 : α8} {x9 : α9} {x10 : α10} {x11 : α11} (h : I x0 x1 x2 x3 x4 x5 x6 x7 x8 x9 x10 x11) : kk_lp12 F x0 x1 x2 x3 x4 x5 x6 x7 x8 x9 x10 x11 := by
  have key : ∀ n, ∀ (x0 : α0) (x1 : α1) (x2 : α2) (x3 : α3) (x4 : α4) (x5 : α5) (x6 : α6) (x7 : α7) (x8 : α8) (x9 : α9) (x10 : α10) (x11 : α11), I x0 x1 x2 x3 x4 x5 x6 x7 x8 x9 x10 x11 → μ x0 x1 x2 x3 x4 x5 x6 x7 x8 x9 x10 x11 < n → kk_it12 F n x0 x1 x2 x3 x4 x5 x6 x7 x8 x9 x10 x11 := by
    intro n
    induction n with
    | zero => intro x0 x1 x2 x3 x4 x5 x6 x7 x8 x9 x10 x11 _ h0; exact absurd h0 (Nat.not_lt_zero _)
    | succ n ih => exact fun x0 x1 x2 x3 x4 x5 x6 x7 x8 x9 x10 x11 h1 h2 => hs (kk_it12 F n) x0 x1 x2 x3 x4 x5 x6 x7 x8 x9 x10 x11 h1 (fun x0' x1' x2' x3' x4' x5' x6' x7' x8' x9' x10' x11' h3 h4 => ih x0' x1' x2' x3' x4' x5' x6' x7' x8' x9' x10' x11' h3 (by omega))
  exact ⟨μ x0 x1 x2 x3 x4 x5 x6 x7 x8 x9 x10 x11 + 1, key _ x0 x1 x2 x3 x4 x5 x6 x7 x8 x9 x10 x11 h (Nat.lt_succ_self _)⟩
abbrev sh_C : List kk_Sh := [.inr (10, [some 1, some 2, some 3, some 4, some 5, some 6, some 7, some 8, some 9, some 10, some 31, some 32, none]), .inr (6, [some 11, some 12, some 13, some 14, some 15, none, none, none]), .inr (3, [some 1, some 16, some 17]), .inr (4, [some 1, some 2, some 18, none]), .inr (5, [some 1, some 2, some 3, some 19, none]), .inr (2, [some 1, some 2]), .inr (1, [some 1, some 2, none, none, none]), .inr (7, [some 1, some 20, some 21, some 22, none, none, none, none]), .inr (0, [some 1, some 23, some 24]), .inr (8, [some 1, some 25, some 26]), .inr (9, [some 1, some 27, some 28, some 29, some 30, none, none]), .inl (false, 20), .inl (false, 20), .inl (false, 20), .inl (false, 9), .inl (false, 9), .inl (false, 20), .inl (false, 9), .inl (false, 9), .inl (false, 5), .inl (false, 9), .inl (false, 20), .inl (false, 20), .inl (false, 5), .inl (false, 5), .inl (false, 9), .inl (false, 10), .inl (false, 6), .inl (false, 128), .inl (false, 128), .inl (false, 128), .inl (false, 20), .inl (false, 20)]
abbrev sh_M : List kk_Sh := [.inr (11, [none, none, none, some 1, some 2, some 3, some 4, some 5, none, none, some 6, none, none, some 7, some 8, some 9, some 10, none, some 11, some 12, some 13, some 14, some 15, none, some 16, some 17, some 18, some 19, some 20, some 21, some 22]), .inl (false, 20), .inl (false, 20), .inl (false, 20), .inl (false, 20), .inl (false, 20), .inl (false, 9), .inl (false, 5), .inl (false, 9), .inl (false, 18), .inl (false, 20), .inl (false, 20), .inl (false, 9), .inl (false, 20), .inl (false, 20), .inl (false, 9), .inl (false, 10), .inl (true, 10), .inl (false, 20), .inl (false, 4096), .inl (false, 4096), .inl (false, 10752), .inl (false, 2560)]
theorem ic_m1 : Int32.ofInt (-1) = (-1 : Int32) := by decide +kernel
theorem ic_0 : Int32.ofInt (0) = (0 : Int32) := by decide +kernel
theorem ic_1 : Int32.ofInt (1) = (1 : Int32) := by decide +kernel
theorem ic_2 : Int32.ofInt (2) = (2 : Int32) := by decide +kernel
theorem ic_3 : Int32.ofInt (3) = (3 : Int32) := by decide +kernel
theorem ic_4 : Int32.ofInt (4) = (4 : Int32) := by decide +kernel
theorem ic_5 : Int32.ofInt (5) = (5 : Int32) := by decide +kernel
theorem bp_m3 : (Int8.ofInt (-3)).toInt32 = (-3 : Int32) := by decide +kernel
theorem bp_m2 : (Int8.ofInt (-2)).toInt32 = (-2 : Int32) := by decide +kernel
theorem bp_6 : (Int8.ofInt (6)).toInt32 = (6 : Int32) := by decide +kernel
theorem bp_7 : (Int8.ofInt (7)).toInt32 = (7 : Int32) := by decide +kernel
theorem bp_8 : (Int8.ofInt (8)).toInt32 = (8 : Int32) := by decide +kernel
theorem bp_9 : (Int8.ofInt (9)).toInt32 = (9 : Int32) := by decide +kernel
theorem bp_10 : (Int8.ofInt (10)).toInt32 = (10 : Int32) := by decide +kernel
theorem bp_16 : (Int8.ofInt (16)).toInt32 = (16 : Int32) := by decide +kernel
theorem bp_18 : (Int8.ofInt (18)).toInt32 = (18 : Int32) := by decide +kernel
theorem bp_19 : (Int8.ofInt (19)).toInt32 = (19 : Int32) := by decide +kernel
theorem bp_20 : (Int8.ofInt (20)).toInt32 = (20 : Int32) := by decide +kernel
theorem bp_21 : (Int8.ofInt (21)).toInt32 = (21 : Int32) := by decide +kernel
theorem bp_24 : (Int8.ofInt (24)).toInt32 = (24 : Int32) := by decide +kernel
theorem bp_31 : (Int8.ofInt (31)).toInt32 = (31 : Int32) := by decide +kernel
theorem bp_32 : (Int8.ofInt (32)).toInt32 = (32 : Int32) := by decide +kernel
theorem bp_63 : (Int8.ofInt (63)).toInt32 = (63 : Int32) := by decide +kernel
theorem bp_99 : (Int8.ofInt (99)).toInt32 = (99 : Int32) := by decide +kernel
theorem sp_128 : (Int16.ofInt (128)).toInt32 = (128 : Int32) := by decide +kernel
theorem sp_256 : (Int16.ofInt (256)).toInt32 = (256 : Int32) := by decide +kernel
theorem sp_511 : (Int16.ofInt (511)).toInt32 = (511 : Int32) := by decide +kernel
theorem sp_512 : (Int16.ofInt (512)).toInt32 = (512 : Int32) := by decide +kernel
theorem sp_1000 : (Int16.ofInt (1000)).toInt32 = (1000 : Int32) := by decide +kernel
theorem sp_1365 : (Int16.ofInt (1365)).toInt32 = (1365 : Int32) := by decide +kernel
theorem sp_2560 : (Int16.ofInt (2560)).toInt32 = (2560 : Int32) := by decide +kernel
theorem sp_4096 : (Int16.ofInt (4096)).toInt32 = (4096 : Int32) := by decide +kernel
theorem lc_0 : Int64.ofNat ((0 : Fin 2) : Nat) = (0 : Int64) := by decide +kernel
theorem lc_1 : Int64.ofNat ((1 : Fin 2) : Nat) = (1 : Int64) := by decide +kernel
theorem ii_m16 (x : Int32) : x + Int32.ofInt (-16) = x + (-16 : Int32) := congrArg (fun z => x + z) (show Int32.ofInt (-16) = (-16 : Int32) by decide +kernel)
theorem ii_m8 (x : Int32) : x + Int32.ofInt (-8) = x + (-8 : Int32) := congrArg (fun z => x + z) (show Int32.ofInt (-8) = (-8 : Int32) by decide +kernel)
theorem ii_m4 (x : Int32) : x + Int32.ofInt (-4) = x + (-4 : Int32) := congrArg (fun z => x + z) (show Int32.ofInt (-4) = (-4 : Int32) by decide +kernel)
theorem ii_m2 (x : Int32) : x + Int32.ofInt (-2) = x + (-2 : Int32) := congrArg (fun z => x + z) (show Int32.ofInt (-2) = (-2 : Int32) by decide +kernel)
theorem ii_m1 (x : Int32) : x + Int32.ofInt (-1) = x + (-1 : Int32) := congrArg (fun z => x + z) (show Int32.ofInt (-1) = (-1 : Int32) by decide +kernel)
theorem ii_1 (x : Int32) : x + Int32.ofInt (1) = x + (1 : Int32) := congrArg (fun z => x + z) (show Int32.ofInt (1) = (1 : Int32) by decide +kernel)
theorem ii_2 (x : Int32) : x + Int32.ofInt (2) = x + (2 : Int32) := congrArg (fun z => x + z) (show Int32.ofInt (2) = (2 : Int32) by decide +kernel)
theorem ii_4 (x : Int32) : x + Int32.ofInt (4) = x + (4 : Int32) := congrArg (fun z => x + z) (show Int32.ofInt (4) = (4 : Int32) by decide +kernel)
theorem ii_8 (x : Int32) : x + Int32.ofInt (8) = x + (8 : Int32) := congrArg (fun z => x + z) (show Int32.ofInt (8) = (8 : Int32) by decide +kernel)
theorem ii_16 (x : Int32) : x + Int32.ofInt (16) = x + (16 : Int32) := congrArg (fun z => x + z) (show Int32.ofInt (16) = (16 : Int32) by decide +kernel)
theorem nz_2 : ¬ (2 : Int32) = 0 := by decide +kernel
theorem nz_9 : ¬ (9 : Int32) = 0 := by decide +kernel
theorem shM_long : ∀ t m, sh_M[t]? = some (.inl (true, m)) → t = 17 := by
  intro t m h
  have hl := (List.getElem?_eq_some_iff.mp h).1
  have key : ∀ t, t < sh_M.length → (match sh_M[t]? with | some (.inl (true, _)) => decide (t = 17) | _ => true) = true := by decide
  have h2 := key t hl
  rw [h] at h2
  simpa using h2
def f_J6_bitCount_0f7a4 (v0 : Int32) (Q : Int32 → Prop) : Prop :=
 (∀ v0_1 : Int32, v0_1 = (v0 - ((kk_ushr v0 (1 : Int32)) &&& (1431655765 : Int32))) → (∀ v0_2 : Int32, v0_2 = ((v0_1 &&& (858993459 : Int32)) + ((kk_ushr v0_1 (2 : Int32)) &&& (858993459 : Int32))) → (∀ v0_3 : Int32, v0_3 = ((v0_2 + (kk_ushr v0_2 (4 : Int32))) &&& (252645135 : Int32)) → (∀ v0_4 : Int32, v0_4 = (v0_3 + (kk_ushr v0_3 (8 : Int32))) → (∀ v0_5 : Int32, v0_5 = (v0_4 + (kk_ushr v0_4 (16 : Int32))) → Q (v0_5 &&& (63 : Int32)))))))
def f_J6_compare_7cf53 (v0 : Int32) (v1 : Int32) (Q : Int32 → Prop) : Prop :=
 (kk_j1 (fun (t_1 : Int32) => Q t_1)
 (fun (J_2 : Int32 → Prop) => ((v1 ≤ v0 → ((¬ v0 = v1 → J_2 (1 : Int32)) ∧
 (v0 = v1 → J_2 (0 : Int32)))) ∧
 (¬ v1 ≤ v0 → J_2 (-1 : Int32)))))
def f_J6_lowestOneBit_0f7a4 (v0 : Int32) (Q : Int32 → Prop) : Prop :=
 Q (v0 &&& (-v0))
def f_J6_numberOfLeadingZeros_0f7a4 (v0 : Int32) (Q : Int32 → Prop) : Prop :=
 ((0 < v0 → (kk_j2 (fun (v0_1 : Int32) (v1_2 : Int32) => (kk_j2 (fun (v0_4 : Int32) (v1_5 : Int32) => (kk_j2 (fun (v0_7 : Int32) (v1_8 : Int32) => (kk_j2 (fun (v0_10 : Int32) (v1_11 : Int32) => Q (v1_11 - (kk_ushr v0_10 (1 : Int32))))
 (fun (J_12 : Int32 → Int32 → Prop) => ((v0_7 < (4 : Int32) → J_12 v0_7 v1_8) ∧
 (¬ v0_7 < (4 : Int32) → J_12 (kk_ushr v0_7 (2 : Int32)) (v1_8 + (-2 : Int32)))))))
 (fun (J_9 : Int32 → Int32 → Prop) => ((v0_4 < (16 : Int32) → J_9 v0_4 v1_5) ∧
 (¬ v0_4 < (16 : Int32) → J_9 (kk_ushr v0_4 (4 : Int32)) (v1_5 + (-4 : Int32)))))))
 (fun (J_6 : Int32 → Int32 → Prop) => ((v0_1 < (256 : Int32) → J_6 v0_1 v1_2) ∧
 (¬ v0_1 < (256 : Int32) → J_6 (kk_ushr v0_1 (8 : Int32)) (v1_2 + (-8 : Int32)))))))
 (fun (J_3 : Int32 → Int32 → Prop) => ((v0 < (65536 : Int32) → J_3 v0 (31 : Int32)) ∧
 (¬ v0 < (65536 : Int32) → J_3 (kk_ushr v0 (16 : Int32)) ((31 : Int32) + (-16 : Int32))))))) ∧
 (¬ 0 < v0 → (kk_j1 (fun (t_17 : Int32) => Q t_17)
 (fun (J_18 : Int32 → Prop) => ((¬ v0 = 0 → J_18 (0 : Int32)) ∧
 (v0 = 0 → J_18 (32 : Int32)))))))
def f_J6_numberOfTrailingZeros_0f7a4 (v0 : Int32) (Q : Int32 → Prop) : Prop :=
 (∀ v0_1 : Int32, v0_1 = ((v0 ^^^ (-1 : Int32)) &&& (v0 - (1 : Int32))) → ((0 < v0_1 → (kk_j2 (fun (v0_2 : Int32) (v1_3 : Int32) => (kk_j2 (fun (v0_5 : Int32) (v1_6 : Int32) => (kk_j2 (fun (v0_8 : Int32) (v1_9 : Int32) => (kk_j2 (fun (v0_11 : Int32) (v1_12 : Int32) => Q (v1_12 + (kk_ushr v0_11 (1 : Int32))))
 (fun (J_13 : Int32 → Int32 → Prop) => ((v0_8 ≤ (4 : Int32) → J_13 v0_8 v1_9) ∧
 (¬ v0_8 ≤ (4 : Int32) → J_13 (kk_ushr v0_8 (2 : Int32)) (v1_9 + (2 : Int32)))))))
 (fun (J_10 : Int32 → Int32 → Prop) => ((v0_5 ≤ (16 : Int32) → J_10 v0_5 v1_6) ∧
 (¬ v0_5 ≤ (16 : Int32) → J_10 (kk_ushr v0_5 (4 : Int32)) (v1_6 + (4 : Int32)))))))
 (fun (J_7 : Int32 → Int32 → Prop) => ((v0_2 ≤ (256 : Int32) → J_7 v0_2 v1_3) ∧
 (¬ v0_2 ≤ (256 : Int32) → J_7 (kk_ushr v0_2 (8 : Int32)) (v1_3 + (8 : Int32)))))))
 (fun (J_4 : Int32 → Int32 → Prop) => ((v0_1 ≤ (65536 : Int32) → J_4 v0_1 (1 : Int32)) ∧
 (¬ v0_1 ≤ (65536 : Int32) → (∀ v0_17 : Int32, v0_17 = (kk_ushr v0_1 (16 : Int32)) → J_4 v0_17 ((1 : Int32) + (16 : Int32)))))))) ∧
 (¬ 0 < v0_1 → Q (v0_1 &&& (32 : Int32)))))
def f_J7_fill_53178 (a0 : Nat) (n0 : Nat) (v1 : Int32) (σ : kk_St) (Q : kk_St → Prop) : Prop :=
 (kk_lp2 (fun (rec_3 : Int32 → kk_St → Prop) (v2_1 : Int32) (σ_2 : kk_St) =>
 (((Int32.ofNat n0) ≤ v2_1 → Q σ_2) ∧
 (¬ (Int32.ofNat n0) ≤ v2_1 → (vp_in v2_1 n0 ∧
 (∀ σ_4 : kk_St, σ_4 = (kk_wr σ_2 a0 (Int32.toNatClampNeg v2_1) v1) → rec_3 (v2_1 + (1 : Int32)) σ_4))))) (0 : Int32) σ)
def f_X0_gather : Nat → Int32 → Int32 → Int32 → Int32 → kk_St → (kk_St → Prop) → Prop
| 0, _, _, _, _, _, _ => False
| n + 1, v1, v2, v3, v4, σ, Q =>
 (vp_in v4 5 ∧
 (kk_j1 (fun (σ_1 : kk_St) => (vp_in v4 5 ∧
 (vp_in v4 5 ∧
 (∀ σ_3 : kk_St, σ_3 = (kk_wr σ_1 23 (Int32.toNatClampNeg v4) ((kk_rd σ_1 23 v4) + (1 : Int32))) → ((v4 < (4 : Int32) → (kk_lp2 (fun (rec_6 : Int32 → kk_St → Prop) (v5_4 : Int32) (σ_5 : kk_St) =>
 (((σ_5.1 1 6) ≤ v5_4 → Q σ_5) ∧
 (¬ (σ_5.1 1 6) ≤ v5_4 → (kk_j1 (fun (σ_7 : kk_St) => rec_6 (v5_4 + (1 : Int32)) σ_7)
 (fun (J_8 : kk_St → Prop) => ((¬ ((v2 >>> (v5_4 &&& 31)) &&& (1 : Int32)) = 0 → J_8 σ_5) ∧
 (((v2 >>> (v5_4 &&& 31)) &&& (1 : Int32)) = 0 → (vp_in v5_4 20 ∧
 (f_X0_gather n (v5_4 + (1 : Int32)) (v2 ||| (kk_rd σ_5 13 v5_4)) (v3 ||| ((1 : Int32) <<< (v5_4 &&& 31))) (v4 + (1 : Int32)) σ_5 (fun (σ_9 : kk_St) =>
 J_8 σ_9)))))))))) v1 σ_3)) ∧
 (¬ v4 < (4 : Int32) → Q σ_3))))))
 (fun (J_2 : kk_St → Prop) => (kk_j0 ((vp_in v4 5 ∧
 (∀ σ_14 : kk_St, σ_14 = (kk_wr σ 24 (Int32.toNatClampNeg v4) v3) → J_2 σ_14)))
 (fun (J_13 : Prop) => (((kk_rd σ 23 v4) = 0 → J_13) ∧
 (¬ (kk_rd σ 23 v4) = 0 → (vp_in v4 5 ∧
 (((kk_rd σ 24 v4) ≤ v3 → J_2 σ) ∧
 (¬ (kk_rd σ 24 v4) ≤ v3 → J_13))))))))))
def f_X0_gatherAll (σ : kk_St) (Q : kk_St → Prop) : Prop :=
 (f_J7_fill_53178 23 5 (0 : Int32) σ (fun (σ_1 : kk_St) =>
 (f_X0_gather 30 (0 : Int32) (0 : Int32) (0 : Int32) (0 : Int32) σ_1 (fun (σ_2 : kk_St) =>
 Q σ_2))))
def f_X0_most (σ : kk_St) (Q : Int32 → Prop) : Prop :=
 (kk_lp2 (fun (rec_3 : Int32 → Int32 → Prop) (v1_1 : Int32) (v2_2 : Int32) =>
 (((4 : Int32) < v2_2 → Q v1_1) ∧
 (¬ (4 : Int32) < v2_2 → (vp_in v2_2 5 ∧
 (kk_j1 (fun (v1_4 : Int32) => rec_3 v1_4 (v2_2 + (1 : Int32)))
 (fun (J_5 : Int32 → Prop) => (((kk_rd σ 23 v2_2) ≤ 0 → J_5 v1_1) ∧
 (¬ (kk_rd σ 23 v2_2) ≤ 0 → J_5 v2_2)))))))) (0 : Int32) (0 : Int32))
def f_X10_apart (v1 : Int32) (σ : kk_St) (Q : Int32 → kk_St → Prop) : Prop :=
 (kk_j0 (Q (-1 : Int32) σ)
 (fun (J_1 : Prop) => ((v1 < 0 → J_1) ∧
 (¬ v1 < 0 → ((v1 ≤ (1 : Int32) → (f_X0_gatherAll σ (fun (σ_2 : kk_St) =>
 (f_X0_most σ_2 (fun (r_3 : Int32) =>
 (kk_j1 (fun (t_4 : Int32) => Q t_4 σ_2)
 (fun (J_5 : Int32 → Prop) => ((¬ v1 = 0 → (vp_in r_3 5 ∧
 J_5 (kk_rd σ_2 24 r_3))) ∧
 (v1 = 0 → J_5 r_3))))))))) ∧
 (¬ v1 ≤ (1 : Int32) → J_1))))))
def f_X10_areAllBelow (a1 : Nat) (n1 : Nat) (v2 : Int32) (σ : kk_St) (Q : Int32 → Prop) : Prop :=
 (kk_j0 (Q (0 : Int32))
 (fun (J_1 : Prop) => (kk_lp1 (fun (rec_3 : Int32 → Prop) (v3_2 : Int32) =>
 (((σ.1 1 6) ≤ v3_2 → Q (1 : Int32)) ∧
 (¬ (σ.1 1 6) ≤ v3_2 → (vp_in v3_2 n1 ∧
 (((kk_rd σ a1 v3_2) = (-1 : Int32) → J_1) ∧
 (¬ (kk_rd σ a1 v3_2) = (-1 : Int32) → (vp_in v3_2 n1 ∧
 (((kk_rd σ a1 v3_2) < v2 → rec_3 (v3_2 + (1 : Int32))) ∧
 (¬ (kk_rd σ a1 v3_2) < v2 → J_1))))))))) (0 : Int32))))
def f_X10_countUnlike (σ : kk_St) (Q : Int32 → Prop) : Prop :=
 (kk_lp2 (fun (rec_3 : Int32 → Int32 → Prop) (v1_1 : Int32) (v2_2 : Int32) =>
 (((σ.1 1 6) ≤ v2_2 → Q v1_1) ∧
 (¬ (σ.1 1 6) ≤ v2_2 → (vp_in v2_2 20 ∧
 (vp_in v2_2 20 ∧
 (kk_j1 (fun (v1_4 : Int32) => rec_3 v1_4 (v2_2 + (1 : Int32)))
 (fun (J_5 : Int32 → Prop) => (((kk_rd σ 31 v2_2) = (kk_rd σ 16 v2_2) → J_5 v1_1) ∧
 (¬ (kk_rd σ 31 v2_2) = (kk_rd σ 16 v2_2) → J_5 (v1_1 + (1 : Int32))))))))))) (0 : Int32) (0 : Int32))
def f_X3_clear (σ : kk_St) (Q : kk_St → Prop) : Prop :=
 (f_J7_fill_53178 16 20 (-1 : Int32) σ (fun (σ_1 : kk_St) =>
 (f_J7_fill_53178 17 9 (0 : Int32) σ_1 (fun (σ_2 : kk_St) =>
 Q σ_2))))
def f_X3_strip (v1 : Int32) (σ : kk_St) (Q : kk_St → Prop) : Prop :=
 (vp_in v1 20 ∧
 (kk_j1 (fun (σ_1 : kk_St) => Q σ_1)
 (fun (J_2 : kk_St → Prop) => (((kk_rd σ 16 v1) = (-1 : Int32) → J_2 σ) ∧
 (¬ (kk_rd σ 16 v1) = (-1 : Int32) → (vp_in (kk_rd σ 16 v1) 9 ∧
 (vp_in (kk_rd σ 16 v1) 9 ∧
 (∀ σ_3 : kk_St, σ_3 = (kk_wr σ 17 (Int32.toNatClampNeg (kk_rd σ 16 v1)) ((kk_rd σ 17 (kk_rd σ 16 v1)) &&& (((1 : Int32) <<< (v1 &&& 31)) ^^^ (-1 : Int32)))) → (vp_in v1 20 ∧
 (∀ σ_4 : kk_St, σ_4 = (kk_wr σ_3 16 (Int32.toNatClampNeg v1) (-1 : Int32)) → J_2 σ_4))))))))))
def f_X3_give (v1 : Int32) (v2 : Int32) (σ : kk_St) (Q : kk_St → Prop) : Prop :=
 (f_X3_strip v1 σ (fun (σ_1 : kk_St) =>
 (vp_in v2 9 ∧
 (vp_in v2 9 ∧
 (∀ σ_2 : kk_St, σ_2 = (kk_wr σ_1 17 (Int32.toNatClampNeg v2) ((kk_rd σ_1 17 v2) ||| ((1 : Int32) <<< (v1 &&& 31)))) → (vp_in v1 20 ∧
 (∀ σ_3 : kk_St, σ_3 = (kk_wr σ_2 16 (Int32.toNatClampNeg v1) v2) → Q σ_3)))))))
def f_X10_back (σ : kk_St) (Q : Int32 → kk_St → Prop) : Prop :=
 ((¬ (σ.1 0 12) = 0 → (f_X10_countUnlike σ (fun (r_1 : Int32) =>
 (f_X3_clear σ (fun (σ_2 : kk_St) =>
 (kk_lp2 (fun (rec_5 : Int32 → kk_St → Prop) (v2_3 : Int32) (σ_4 : kk_St) =>
 (((σ_4.1 1 6) ≤ v2_3 → Q r_1 σ_4) ∧
 (¬ (σ_4.1 1 6) ≤ v2_3 → (vp_in v2_3 20 ∧
 (kk_j1 (fun (σ_6 : kk_St) => rec_5 (v2_3 + (1 : Int32)) σ_6)
 (fun (J_7 : kk_St → Prop) => (((kk_rd σ_4 31 v2_3) = (-1 : Int32) → J_7 σ_4) ∧
 (¬ (kk_rd σ_4 31 v2_3) = (-1 : Int32) → (vp_in v2_3 20 ∧
 (f_X3_give v2_3 (kk_rd σ_4 31 v2_3) σ_4 (fun (σ_8 : kk_St) =>
 J_7 σ_8))))))))))) (0 : Int32) σ_2)))))) ∧
 ((σ.1 0 12) = 0 → Q (-1 : Int32) σ))
def f_X6_isLine (v1 : Int32) (σ : kk_St) (Q : Int32 → Prop) : Prop :=
 (kk_j1 (fun (t_1 : Int32) => ((t_1 = 0 ∨ t_1 = 1) ∧ Q t_1))
 (fun (J_2 : Int32 → Prop) => (kk_j0 (J_2 (0 : Int32))
 (fun (J_3 : Prop) => ((v1 < 0 → J_3) ∧
 (¬ v1 < 0 → (((σ.1 1 6) ≤ v1 → J_3) ∧
 (¬ (σ.1 1 6) ≤ v1 → J_2 (1 : Int32)))))))))
def f_X10_bare (v1 : Int32) (σ : kk_St) (Q : Int32 → kk_St → Prop) : Prop :=
 (f_X6_isLine v1 σ (fun (r_1 : Int32) =>
 (kk_j0 (Q (-1 : Int32) σ)
 (fun (J_2 : Prop) => ((r_1 = 0 → J_2) ∧
 (¬ r_1 = 0 → (vp_in v1 20 ∧
 ((¬ (kk_rd σ 16 v1) = (-1 : Int32) → (vp_in v1 20 ∧
 (f_X3_strip v1 σ (fun (σ_3 : kk_St) =>
 Q (kk_rd σ 16 v1) σ_3)))) ∧
 ((kk_rd σ 16 v1) = (-1 : Int32) → J_2)))))))))
def f_X6_clear (v1 : Int32) (σ : kk_St) (Q : kk_St → Prop) : Prop :=
 (∀ σ_1 : kk_St, σ_1 = (kk_wr σ 1 5 v1) → (∀ σ_2 : kk_St, σ_2 = (kk_wr σ_1 1 6 (0 : Int32)) → (∀ σ_3 : kk_St, σ_3 = (kk_wr σ_2 1 7 (0 : Int32)) → (f_J7_fill_53178 14 9 (0 : Int32) σ_3 (fun (σ_4 : kk_St) =>
 (f_J7_fill_53178 15 9 (0 : Int32) σ_4 (fun (σ_5 : kk_St) =>
 Q σ_5)))))))
def f_X7_forgetAnswer (σ : kk_St) (Q : kk_St → Prop) : Prop :=
 (∀ σ_1 : kk_St, σ_1 = (kk_wr σ 7 4 (-1 : Int32)) → Q σ_1)
def f_X7_forget (σ : kk_St) (Q : kk_St → Prop) : Prop :=
 (∀ σ_1 : kk_St, σ_1 = (kk_wr σ 7 6 (-1 : Int32)) → (∀ σ_2 : kk_St, σ_2 = (kk_wr σ_1 7 7 (-1 : Int32)) → (f_X7_forgetAnswer σ_2 (fun (σ_3 : kk_St) =>
 Q σ_3))))
def f_X10_begin (v1 : Int32) (σ : kk_St) (Q : Int32 → kk_St → Prop) : Prop :=
 (kk_j0 (Q (0 : Int32) σ)
 (fun (J_1 : Prop) => ((v1 < (1 : Int32) → J_1) ∧
 (¬ v1 < (1 : Int32) → ((v1 ≤ (9 : Int32) → (f_X6_clear v1 σ (fun (σ_2 : kk_St) =>
 (f_X3_clear σ_2 (fun (σ_3 : kk_St) =>
 (∀ σ_4 : kk_St, σ_4 = (kk_wr σ_3 4 4 (0 : Int32)) → (f_X7_forget σ_4 (fun (σ_5 : kk_St) =>
 (∀ σ_6 : kk_St, σ_6 = (kk_wr σ_5 0 12 (0 : Int32)) → Q (1 : Int32) σ_6))))))))) ∧
 (¬ v1 ≤ (9 : Int32) → J_1))))))
def f_X10_greatestBit (v0 : Int32) (Q : Int32 → Prop) : Prop :=
 (f_J6_numberOfLeadingZeros_0f7a4 v0 (fun (r_1 : Int32) =>
 Q ((31 : Int32) - r_1)))
def f_X10_idleOf (v0 : Int32) (Q : Int32 → Prop) : Prop :=
 ((¬ v0 = 0 → (f_X10_greatestBit v0 (fun (r_1 : Int32) =>
 (f_J6_numberOfTrailingZeros_0f7a4 v0 (fun (r_2 : Int32) =>
 (f_J6_bitCount_0f7a4 v0 (fun (r_3 : Int32) =>
 Q (((r_1 - r_2) - r_3) + (1 : Int32))))))))) ∧
 (v0 = 0 → Q (0 : Int32)))
def f_X3_coloursAt (v1 : Int32) (σ : kk_St) (Q : Int32 → Prop) : Prop :=
 (kk_lp2 (fun (rec_3 : Int32 → Int32 → Prop) (v2_1 : Int32) (v3_2 : Int32) =>
 (((9 : Int32) ≤ v3_2 → Q v2_1) ∧
 (¬ (9 : Int32) ≤ v3_2 → (vp_in v3_2 9 ∧
 (vp_in v1 9 ∧
 (kk_j1 (fun (v2_4 : Int32) => rec_3 v2_4 (v3_2 + (1 : Int32)))
 (fun (J_5 : Int32 → Prop) => ((((kk_rd σ 17 v3_2) &&& (kk_rd σ 14 v1)) = 0 → J_5 v2_1) ∧
 (¬ ((kk_rd σ 17 v3_2) &&& (kk_rd σ 14 v1)) = 0 → (∀ v2_6 : Int32, v2_6 = (v2_1 ||| ((1 : Int32) <<< (v3_2 &&& 31))) → J_5 v2_6)))))))))) (0 : Int32) (0 : Int32))
def f_X1_idleOfAll (v1 : Int32) (v2 : Int32) (σ : kk_St) (Q : Int32 → Prop) : Prop :=
 (kk_lp2 (fun (rec_3 : Int32 → Int32 → Prop) (v3_1 : Int32) (v4_2 : Int32) =>
 (((σ.1 1 5) ≤ v4_2 → Q v3_1) ∧
 (¬ (σ.1 1 5) ≤ v4_2 → (f_X3_coloursAt v4_2 σ (fun (r_4 : Int32) =>
 (kk_j1 (fun (t_5 : Int32) => (kk_j1 (fun (t_7 : Int32) => (f_X10_idleOf t_7 (fun (r_9 : Int32) =>
 rec_3 (v3_1 + r_9) (v4_2 + (1 : Int32)))))
 (fun (J_8 : Int32 → Prop) => ((t_5 = 0 → J_8 r_4) ∧
 (¬ t_5 = 0 → J_8 (r_4 ^^^ (((1 : Int32) <<< (v1 &&& 31)) ||| ((1 : Int32) <<< (v2 &&& 31)))))))))
 (fun (J_6 : Int32 → Prop) => ((((r_4 >>> (v1 &&& 31)) &&& (1 : Int32)) = ((r_4 >>> (v2 &&& 31)) &&& (1 : Int32)) → J_6 (0 : Int32)) ∧
 (¬ ((r_4 >>> (v1 &&& 31)) &&& (1 : Int32)) = ((r_4 >>> (v2 &&& 31)) &&& (1 : Int32)) → J_6 (1 : Int32)))))))))) (0 : Int32) (0 : Int32))
def f_X3_colours (σ : kk_St) (Q : Int32 → Prop) : Prop :=
 Q ((σ.1 1 7) + (1 : Int32))
def f_X1_look (σ : kk_St) (Q : kk_St → Prop) : Prop :=
 (f_X1_idleOfAll (0 : Int32) (0 : Int32) σ (fun (r_1 : Int32) =>
 (∀ σ_2 : kk_St, σ_2 = (kk_wr σ 6 2 (0 : Int32)) → (kk_lp2 (fun (rec_5 : Int32 → kk_St → Prop) (v2_3 : Int32) (σ_4 : kk_St) =>
 (f_X3_colours σ_4 (fun (r_6 : Int32) =>
 ((r_6 ≤ v2_3 → Q σ_4) ∧
 (¬ r_6 ≤ v2_3 → (kk_lp2 (fun (rec_9 : Int32 → kk_St → Prop) (v3_7 : Int32) (σ_8 : kk_St) =>
 (f_X3_colours σ_8 (fun (r_10 : Int32) =>
 ((r_10 ≤ v3_7 → rec_5 (v2_3 + (1 : Int32)) σ_8) ∧
 (¬ r_10 ≤ v3_7 → (f_X1_idleOfAll v2_3 v3_7 σ_8 (fun (r_11 : Int32) =>
 (kk_j1 (fun (σ_12 : kk_St) => rec_9 (v3_7 + (1 : Int32)) σ_12)
 (fun (J_13 : kk_St → Prop) => (((r_1 - r_11) ≤ (σ_8.1 6 2) → J_13 σ_8) ∧
 (¬ (r_1 - r_11) ≤ (σ_8.1 6 2) → (∀ σ_14 : kk_St, σ_14 = (kk_wr σ_8 6 2 (r_1 - r_11)) → (∀ σ_15 : kk_St, σ_15 = (kk_wr σ_14 6 3 v2_3) → (∀ σ_16 : kk_St, σ_16 = (kk_wr σ_15 6 4 v3_7) → J_13 σ_16)))))))))))))) (v2_3 + (1 : Int32)) σ_4)))))) (0 : Int32) σ_2))))
def f_X10_calmer (v1 : Int32) (σ : kk_St) (Q : Int32 → kk_St → Prop) : Prop :=
 (kk_j0 (Q (-1 : Int32) σ)
 (fun (J_1 : Prop) => ((v1 < 0 → J_1) ∧
 (¬ v1 < 0 → ((v1 ≤ (2 : Int32) → (f_X1_look σ (fun (σ_2 : kk_St) =>
 ((0 < (σ_2.1 6 2) → ((¬ v1 = 0 → (kk_j1 (fun (t_3 : Int32) => Q t_3 σ_2)
 (fun (J_4 : Int32 → Prop) => ((¬ v1 = (1 : Int32) → J_4 (σ_2.1 6 4)) ∧
 (v1 = (1 : Int32) → J_4 (σ_2.1 6 3)))))) ∧
 (v1 = 0 → Q (σ_2.1 6 2) σ_2))) ∧
 (¬ 0 < (σ_2.1 6 2) → Q (-2 : Int32) σ_2))))) ∧
 (¬ v1 ≤ (2 : Int32) → J_1))))))
def f_X3_isColour (v1 : Int32) (σ : kk_St) (Q : Int32 → Prop) : Prop :=
 (kk_j1 (fun (t_1 : Int32) => ((t_1 = 0 ∨ t_1 = 1) ∧ Q t_1))
 (fun (J_2 : Int32 → Prop) => (kk_j0 (J_2 (0 : Int32))
 (fun (J_3 : Prop) => ((v1 < 0 → J_3) ∧
 (¬ v1 < 0 → (f_X3_colours σ (fun (r_4 : Int32) =>
 ((r_4 ≤ v1 → J_3) ∧
 (¬ r_4 ≤ v1 → J_2 (1 : Int32)))))))))))
def f_X3_areUnlike (v1 : Int32) (v2 : Int32) (σ : kk_St) (Q : Int32 → Prop) : Prop :=
 (f_X3_isColour v1 σ (fun (r_1 : Int32) =>
 (kk_j1 (fun (t_2 : Int32) => ((t_2 = 0 ∨ t_2 = 1) ∧ Q t_2))
 (fun (J_3 : Int32 → Prop) => (kk_j0 (J_3 (0 : Int32))
 (fun (J_4 : Prop) => ((r_1 = 0 → J_4) ∧
 (¬ r_1 = 0 → (f_X3_isColour v2 σ (fun (r_5 : Int32) =>
 ((r_5 = 0 → J_4) ∧
 (¬ r_5 = 0 → ((v1 = v2 → J_4) ∧
 (¬ v1 = v2 → J_3 (1 : Int32)))))))))))))))
def f_X6_joined (v1 : Int32) (v2 : Int32) (σ : kk_St) (Q : Int32 → Prop) : Prop :=
 (kk_j1 (fun (v3_1 : Int32) => Q v3_1)
 (fun (J_2 : Int32 → Prop) => (kk_lp3 (fun (rec_6 : Int32 → Int32 → Int32 → Prop) (v3_3 : Int32) (v4_4 : Int32) (v5_5 : Int32) =>
 (((20 : Int32) ≤ v5_5 → J_2 v3_3) ∧
 (¬ (20 : Int32) ≤ v5_5 → ((v4_4 = 0 → J_2 v3_3) ∧
 (¬ v4_4 = 0 → (f_J6_numberOfTrailingZeros_0f7a4 v4_4 (fun (r_7 : Int32) =>
 (vp_in r_7 20 ∧
 (∀ v7_8 : Int32, v7_8 = (((kk_rd σ 13 r_7) &&& v2) &&& (v3_3 ^^^ (-1 : Int32))) → (∀ v4_9 : Int32, v4_9 = ((v4_4 &&& (((1 : Int32) <<< (r_7 &&& 31)) ^^^ (-1 : Int32))) ||| v7_8) → rec_6 (v3_3 ||| v7_8) v4_9 (v5_5 + (1 : Int32)))))))))))) (v1 &&& v2) (v1 &&& v2) (0 : Int32))))
def f_X3_chainOf (v1 : Int32) (v2 : Int32) (v3 : Int32) (σ : kk_St) (Q : Int32 → Prop) : Prop :=
 (vp_in v1 9 ∧
 (vp_in v2 9 ∧
 (vp_in v3 9 ∧
 (f_X6_joined (kk_rd σ 14 v1) ((kk_rd σ 17 v2) ||| (kk_rd σ 17 v3)) σ (fun (r_1 : Int32) =>
 Q r_1)))))
def f_X6_isPost (v1 : Int32) (σ : kk_St) (Q : Int32 → Prop) : Prop :=
 (kk_j1 (fun (t_1 : Int32) => ((t_1 = 0 ∨ t_1 = 1) ∧ Q t_1))
 (fun (J_2 : Int32 → Prop) => (kk_j0 (J_2 (0 : Int32))
 (fun (J_3 : Prop) => ((v1 < 0 → J_3) ∧
 (¬ v1 < 0 → (((σ.1 1 5) ≤ v1 → J_3) ∧
 (¬ (σ.1 1 5) ≤ v1 → J_2 (1 : Int32)))))))))
def f_X6_postsOf (v1 : Int32) (σ : kk_St) (Q : Int32 → Prop) : Prop :=
 (kk_lp2 (fun (rec_3 : Int32 → Int32 → Prop) (v2_1 : Int32) (v3_2 : Int32) =>
 (((σ.1 1 5) ≤ v3_2 → Q v2_1) ∧
 (¬ (σ.1 1 5) ≤ v3_2 → (vp_in v3_2 9 ∧
 (kk_j1 (fun (v2_4 : Int32) => rec_3 v2_4 (v3_2 + (1 : Int32)))
 (fun (J_5 : Int32 → Prop) => ((((kk_rd σ 14 v3_2) &&& v1) = 0 → J_5 v2_1) ∧
 (¬ ((kk_rd σ 14 v3_2) &&& v1) = 0 → (∀ v2_6 : Int32, v2_6 = (v2_1 ||| ((1 : Int32) <<< (v3_2 &&& 31))) → J_5 v2_6))))))))) (0 : Int32) (0 : Int32))
def f_X10_chain (v1 : Int32) (v2 : Int32) (v3 : Int32) (v4 : Int32) (σ : kk_St) (Q : Int32 → Prop) : Prop :=
 (f_X6_isPost v1 σ (fun (r_1 : Int32) =>
 (kk_j0 (Q (-1 : Int32))
 (fun (J_2 : Prop) => ((r_1 = 0 → J_2) ∧
 (¬ r_1 = 0 → (f_X3_areUnlike v2 v3 σ (fun (r_3 : Int32) =>
 ((¬ r_3 = 0 → (f_X3_chainOf v1 v2 v3 σ (fun (r_4 : Int32) =>
 (f_X6_postsOf r_4 σ (fun (r_5 : Int32) =>
 (∀ v6_6 : Int32, v6_6 = (r_5 ||| ((1 : Int32) <<< (v1 &&& 31))) → ((v4 = nI 0 → Q r_4) ∧
 (v4 = nI 1 → Q v6_6) ∧
 (v4 = nI 2 → (f_J6_bitCount_0f7a4 r_4 (fun (r_7 : Int32) =>
 (f_J6_bitCount_0f7a4 v6_6 (fun (r_8 : Int32) =>
 (kk_j1 (fun (t_9 : Int32) => Q t_9)
 (fun (J_10 : Int32 → Prop) => ((¬ r_7 = r_8 → J_10 (0 : Int32)) ∧
 (r_7 = r_8 → J_10 (1 : Int32)))))))))) ∧
 (v4 = nI 3 → (vp_in v2 9 ∧
 (f_J6_bitCount_0f7a4 (r_4 &&& (kk_rd σ 17 v2)) (fun (r_12 : Int32) =>
 (vp_in v3 9 ∧
 (f_J6_bitCount_0f7a4 (r_4 &&& (kk_rd σ 17 v3)) (fun (r_13 : Int32) =>
 (f_J6_compare_7cf53 r_12 r_13 (fun (r_14 : Int32) =>
 Q r_14))))))))) ∧
 (v4.toInt < 0 ∨ (4 : Int) ≤ v4.toInt → Q (-2 : Int32))))))))) ∧
 (r_3 = 0 → J_2))))))))))
def f_X2_countChains (v1 : Int32) (v2 : Int32) (σ : kk_St) (Q : Int32 → Prop) : Prop :=
 (vp_in v1 9 ∧
 (vp_in v2 9 ∧
 (∀ v3_1 : Int32, v3_1 = ((kk_rd σ 17 v1) ||| (kk_rd σ 17 v2)) → (kk_lp3 (fun (rec_5 : Int32 → Int32 → Int32 → Prop) (v4_2 : Int32) (v5_3 : Int32) (v6_4 : Int32) =>
 (((σ.1 1 6) ≤ v6_4 → Q v5_3) ∧
 (¬ (σ.1 1 6) ≤ v6_4 → (kk_j2 (fun (v4_6 : Int32) (v5_7 : Int32) => rec_5 v4_6 v5_7 (v6_4 + (1 : Int32)))
 (fun (J_8 : Int32 → Int32 → Prop) => ((((v4_2 >>> (v6_4 &&& 31)) &&& (1 : Int32)) = 0 → J_8 v4_2 v5_3) ∧
 (¬ ((v4_2 >>> (v6_4 &&& 31)) &&& (1 : Int32)) = 0 → (f_X6_joined ((1 : Int32) <<< (v6_4 &&& 31)) v3_1 σ (fun (r_9 : Int32) =>
 (∀ v4_10 : Int32, v4_10 = (v4_2 &&& (r_9 ^^^ (-1 : Int32))) → J_8 v4_10 (v5_3 + (1 : Int32)))))))))))) v3_1 (0 : Int32) (0 : Int32)))))
def f_X10_chains (v1 : Int32) (v2 : Int32) (σ : kk_St) (Q : Int32 → Prop) : Prop :=
 (f_X3_areUnlike v1 v2 σ (fun (r_1 : Int32) =>
 (kk_j1 (fun (t_2 : Int32) => Q t_2)
 (fun (J_3 : Int32 → Prop) => ((r_1 = 0 → J_3 (-1 : Int32)) ∧
 (¬ r_1 = 0 → (f_X2_countChains v1 v2 σ (fun (r_4 : Int32) =>
 J_3 r_4))))))))
def f_X3_lineWith (v1 : Int32) (v2 : Int32) (σ : kk_St) (Q : Int32 → Prop) : Prop :=
 (vp_in v1 9 ∧
 (vp_in v2 9 ∧
 (∀ v3_1 : Int32, v3_1 = ((kk_rd σ 14 v1) &&& (kk_rd σ 17 v2)) → (kk_j1 (fun (t_2 : Int32) => Q t_2)
 (fun (J_3 : Int32 → Prop) => ((¬ v3_1 = 0 → (f_J6_numberOfTrailingZeros_0f7a4 v3_1 (fun (r_4 : Int32) =>
 J_3 r_4))) ∧
 (v3_1 = 0 → J_3 (-1 : Int32))))))))
def f_X10_clash (v1 : Int32) (v2 : Int32) (σ : kk_St) (Q : Int32 → Prop) : Prop :=
 (f_X6_isLine v1 σ (fun (r_1 : Int32) =>
 (kk_j0 (Q (-1 : Int32))
 (fun (J_2 : Prop) => ((r_1 = 0 → J_2) ∧
 (¬ r_1 = 0 → (f_X3_isColour v2 σ (fun (r_3 : Int32) =>
 ((¬ r_3 = 0 → (vp_in v1 20 ∧
 ((¬ (kk_rd σ 16 v1) = v2 → (vp_in v1 20 ∧
 (f_X3_lineWith (kk_rd σ 11 v1) v2 σ (fun (r_4 : Int32) =>
 ((r_4 = (-1 : Int32) → (vp_in v1 20 ∧
 (f_X3_lineWith (kk_rd σ 12 v1) v2 σ (fun (r_5 : Int32) =>
 (kk_j1 (fun (t_6 : Int32) => Q t_6)
 (fun (J_7 : Int32 → Prop) => ((r_5 = (-1 : Int32) → J_7 (-2 : Int32)) ∧
 (¬ r_5 = (-1 : Int32) → J_7 r_5)))))))) ∧
 (¬ r_4 = (-1 : Int32) → Q r_4)))))) ∧
 ((kk_rd σ 16 v1) = v2 → Q v1)))) ∧
 (r_3 = 0 → J_2))))))))))
def f_X6_allPosts (σ : kk_St) (Q : Int32 → Prop) : Prop :=
 Q (((1 : Int32) <<< ((σ.1 1 5) &&& 31)) - (1 : Int32))
def f_X10_colour (v1 : Int32) (v2 : Int32) (σ : kk_St) (Q : Int32 → Prop) : Prop :=
 (f_X3_isColour v1 σ (fun (r_1 : Int32) =>
 ((¬ r_1 = 0 → (vp_in v1 9 ∧
 ((v2 = nI 0 → (f_J6_bitCount_0f7a4 (kk_rd σ 17 v1) (fun (r_2 : Int32) =>
 Q r_2))) ∧
 (v2 = nI 1 → Q (kk_rd σ 17 v1)) ∧
 (v2 = nI 2 → (f_X6_allPosts σ (fun (r_3 : Int32) =>
 (f_X6_postsOf (kk_rd σ 17 v1) σ (fun (r_4 : Int32) =>
 Q (r_3 &&& (r_4 ^^^ (-1 : Int32)))))))) ∧
 (v2.toInt < 0 ∨ (3 : Int) ≤ v2.toInt → Q (-1 : Int32))))) ∧
 (r_1 = 0 → Q (-1 : Int32)))))
def f_X3_freeAt (v1 : Int32) (σ : kk_St) (Q : Int32 → Prop) : Prop :=
 (f_X3_colours σ (fun (r_1 : Int32) =>
 (f_X3_coloursAt v1 σ (fun (r_2 : Int32) =>
 Q ((((1 : Int32) <<< (r_1 &&& 31)) - (1 : Int32)) &&& (r_2 ^^^ (-1 : Int32)))))))
def f_X3_freeAtBoth (v1 : Int32) (σ : kk_St) (Q : Int32 → Prop) : Prop :=
 (vp_in v1 20 ∧
 (f_X3_freeAt (kk_rd σ 11 v1) σ (fun (r_1 : Int32) =>
 (vp_in v1 20 ∧
 (f_X3_freeAt (kk_rd σ 12 v1) σ (fun (r_2 : Int32) =>
 Q (r_1 &&& r_2)))))))
def f_X10_countEasy (σ : kk_St) (Q : Int32 → Prop) : Prop :=
 (∀ v1_1 : Int32, v1_1 = (((1 : Int32) <<< ((σ.1 1 7) &&& 31)) - (1 : Int32)) → (kk_lp2 (fun (rec_4 : Int32 → Int32 → Prop) (v2_2 : Int32) (v3_3 : Int32) =>
 (((σ.1 1 6) ≤ v3_3 → Q v2_2) ∧
 (¬ (σ.1 1 6) ≤ v3_3 → (vp_in v3_3 20 ∧
 (kk_j1 (fun (v2_5 : Int32) => rec_4 v2_5 (v3_3 + (1 : Int32)))
 (fun (J_6 : Int32 → Prop) => ((¬ (kk_rd σ 16 v3_3) = (-1 : Int32) → J_6 v2_2) ∧
 ((kk_rd σ 16 v3_3) = (-1 : Int32) → (f_X3_freeAtBoth v3_3 σ (fun (r_7 : Int32) =>
 (((r_7 &&& v1_1) = 0 → J_6 v2_2) ∧
 (¬ (r_7 &&& v1_1) = 0 → J_6 (v2_2 + (1 : Int32)))))))))))))) (0 : Int32) (0 : Int32)))
def f_X6_allLines (σ : kk_St) (Q : Int32 → Prop) : Prop :=
 Q (((1 : Int32) <<< ((σ.1 1 6) &&& 31)) - (1 : Int32))
def f_X3_bareLines (σ : kk_St) (Q : Int32 → Prop) : Prop :=
 (f_X6_allLines σ (fun (r_1 : Int32) =>
 (kk_lp2 (fun (rec_4 : Int32 → Int32 → Prop) (v1_2 : Int32) (v2_3 : Int32) =>
 (((9 : Int32) ≤ v2_3 → Q v1_2) ∧
 (¬ (9 : Int32) ≤ v2_3 → (vp_in v2_3 9 ∧
 (∀ v1_5 : Int32, v1_5 = (v1_2 &&& ((kk_rd σ 17 v2_3) ^^^ (-1 : Int32))) → rec_4 v1_5 (v2_3 + (1 : Int32))))))) r_1 (0 : Int32))))
def f_X3_unevenness (σ : kk_St) (Q : Int32 → Prop) : Prop :=
 (kk_lp3 (fun (rec_4 : Int32 → Int32 → Int32 → Prop) (v1_1 : Int32) (v2_2 : Int32) (v3_3 : Int32) =>
 (((9 : Int32) ≤ v3_3 → Q (kk_max (0 : Int32) (v1_1 - v2_2))) ∧
 (¬ (9 : Int32) ≤ v3_3 → (vp_in v3_3 9 ∧
 (kk_j2 (fun (v1_5 : Int32) (v2_6 : Int32) => rec_4 v1_5 v2_6 (v3_3 + (1 : Int32)))
 (fun (J_7 : Int32 → Int32 → Prop) => (((kk_rd σ 17 v3_3) = 0 → J_7 v1_1 v2_2) ∧
 (¬ (kk_rd σ 17 v3_3) = 0 → (vp_in v3_3 9 ∧
 (f_J6_bitCount_0f7a4 (kk_rd σ 17 v3_3) (fun (r_8 : Int32) =>
 (vp_in v3_3 9 ∧
 (f_J6_bitCount_0f7a4 (kk_rd σ 17 v3_3) (fun (r_9 : Int32) =>
 J_7 (kk_max v1_1 r_8) (kk_min v2_2 r_9))))))))))))))) (0 : Int32) (20 : Int32) (0 : Int32))
def f_X3_usedColours (σ : kk_St) (Q : Int32 → Prop) : Prop :=
 (kk_lp2 (fun (rec_3 : Int32 → Int32 → Prop) (v1_1 : Int32) (v2_2 : Int32) =>
 (((9 : Int32) ≤ v2_2 → Q v1_1) ∧
 (¬ (9 : Int32) ≤ v2_2 → (vp_in v2_2 9 ∧
 (kk_j1 (fun (v1_4 : Int32) => rec_3 v1_4 (v2_2 + (1 : Int32)))
 (fun (J_5 : Int32 → Prop) => (((kk_rd σ 17 v2_2) = 0 → J_5 v1_1) ∧
 (¬ (kk_rd σ 17 v2_2) = 0 → J_5 (v1_1 + (1 : Int32)))))))))) (0 : Int32) (0 : Int32))
def f_X10_count (v1 : Int32) (σ : kk_St) (Q : Int32 → Prop) : Prop :=
 ((v1 = nI 0 → Q (σ.1 1 5)) ∧
 (v1 = nI 1 → Q (σ.1 1 6)) ∧
 (v1 = nI 2 → Q (σ.1 1 7)) ∧
 (v1 = nI 3 → (f_X3_bareLines σ (fun (r_1 : Int32) =>
 (f_J6_bitCount_0f7a4 r_1 (fun (r_2 : Int32) =>
 Q r_2))))) ∧
 (v1 = nI 4 → (f_X3_usedColours σ (fun (r_3 : Int32) =>
 Q r_3))) ∧
 (v1 = nI 5 → (f_X3_unevenness σ (fun (r_4 : Int32) =>
 Q r_4))) ∧
 (v1 = nI 6 → (kk_j1 (fun (t_5 : Int32) => Q t_5)
 (fun (J_6 : Int32 → Prop) => (((σ.1 0 12) = 0 → J_6 (0 : Int32)) ∧
 (¬ (σ.1 0 12) = 0 → J_6 (1 : Int32)))))) ∧
 (v1 = nI 7 → (f_X10_countEasy σ (fun (r_8 : Int32) =>
 Q r_8))) ∧
 (v1.toInt < 0 ∨ (8 : Int) ≤ v1.toInt → Q (-1 : Int32)))
def f_X6_linesWithin (v1 : Int32) (v2 : Int32) (σ : kk_St) (Q : Int32 → Prop) : Prop :=
 (kk_lp2 (fun (rec_3 : Int32 → Int32 → Prop) (v3_1 : Int32) (v4_2 : Int32) =>
 (((σ.1 1 5) ≤ v4_2 → (f_J6_bitCount_0f7a4 (v2 &&& (v3_1 ^^^ (-1 : Int32))) (fun (r_4 : Int32) =>
 Q r_4))) ∧
 (¬ (σ.1 1 5) ≤ v4_2 → (kk_j1 (fun (v3_5 : Int32) => rec_3 v3_5 (v4_2 + (1 : Int32)))
 (fun (J_6 : Int32 → Prop) => ((¬ ((v1 >>> (v4_2 &&& 31)) &&& (1 : Int32)) = 0 → J_6 v3_1) ∧
 (((v1 >>> (v4_2 &&& 31)) &&& (1 : Int32)) = 0 → (vp_in v4_2 9 ∧
 (∀ v3_7 : Int32, v3_7 = (v3_1 ||| (kk_rd σ 14 v4_2)) → J_6 v3_7))))))))) (0 : Int32) (0 : Int32))
def f_X6_crowdedSet (v1 : Int32) (v2 : Int32) (σ : kk_St) (Q : Int32 → Prop) : Prop :=
 (kk_lp1 (fun (rec_2 : Int32 → Prop) (v3_1 : Int32) =>
 (f_X6_allPosts σ (fun (r_3 : Int32) =>
 ((r_3 < v3_1 → Q (0 : Int32)) ∧
 (¬ r_3 < v3_1 → (f_J6_bitCount_0f7a4 v3_1 (fun (r_4 : Int32) =>
 (kk_j0 (rec_2 (v3_1 + (1 : Int32)))
 (fun (J_5 : Prop) => ((r_4 < (3 : Int32) → J_5) ∧
 (¬ r_4 < (3 : Int32) → ((¬ (r_4 - r_4 / (2 : Int32) * (2 : Int32)) = (1 : Int32) → J_5) ∧
 ((r_4 - r_4 / (2 : Int32) * (2 : Int32)) = (1 : Int32) → (f_X6_linesWithin v3_1 v1 σ (fun (r_6 : Int32) =>
 ((r_6 ≤ (v2 * (r_4 / (2 : Int32))) → J_5) ∧
 (¬ r_6 ≤ (v2 * (r_4 / (2 : Int32))) → Q v3_1))))))))))))))))) (7 : Int32))
def f_X6_mostAtOnePost (v1 : Int32) (σ : kk_St) (Q : Int32 → Prop) : Prop :=
 (kk_lp2 (fun (rec_3 : Int32 → Int32 → Prop) (v2_1 : Int32) (v3_2 : Int32) =>
 (((σ.1 1 5) ≤ v3_2 → Q v2_1) ∧
 (¬ (σ.1 1 5) ≤ v3_2 → (vp_in v3_2 9 ∧
 (f_J6_bitCount_0f7a4 ((kk_rd σ 14 v3_2) &&& v1) (fun (r_4 : Int32) =>
 rec_3 (kk_max v2_1 r_4) (v3_2 + (1 : Int32)))))))) (0 : Int32) (0 : Int32))
def f_X7_completeWith (fr : Int32 → Int32 → kk_St → (Int32 → kk_St → Prop) → Prop) (v1 : Int32) (v2 : Int32) (v3 : Int32) (v4 : Int32) (σ : kk_St) (Q : Int32 → kk_St → Prop) : Prop :=
 (vp_in v2 9 ∧
 (vp_in v1 20 ∧
 (vp_in v2 9 ∧
 (∀ σ_1 : kk_St, σ_1 = (kk_wr σ 20 (Int32.toNatClampNeg v2) ((kk_rd σ 20 v2) &&& ((kk_rd σ 13 v1) ^^^ (-1 : Int32)))) → (fr v3 v4 σ_1 (fun (r_2 : Int32) (σ_3 : kk_St) =>
 (vp_in v2 9 ∧
 (∀ σ_4 : kk_St, σ_4 = (kk_wr σ_3 20 (Int32.toNatClampNeg v2) (kk_rd σ 20 v2)) → (kk_j1 (fun (σ_5 : kk_St) => ((r_2 = 0 ∨ r_2 = 1) ∧ Q r_2 σ_5))
 (fun (J_6 : kk_St → Prop) => ((r_2 = 0 → J_6 σ_4) ∧
 (¬ r_2 = 0 → (vp_in v1 20 ∧
 (∀ σ_7 : kk_St, σ_7 = (kk_wr σ_4 21 (Int32.toNatClampNeg v1) v2) → J_6 σ_7))))))))))))))
def f_X7_hasTwin (v1 : Int32) (v2 : Int32) (σ : kk_St) (Q : Int32 → Prop) : Prop :=
 (kk_lp1 (fun (rec_2 : Int32 → Prop) (v3_1 : Int32) =>
 ((v1 ≤ v3_1 → Q (0 : Int32)) ∧
 (¬ v1 ≤ v3_1 → (vp_in v3_1 9 ∧
 (vp_in v1 9 ∧
 ((¬ (((kk_rd σ 20 v3_1) ^^^ (kk_rd σ 20 v1)) &&& v2) = 0 → rec_2 (v3_1 + (1 : Int32))) ∧
 ((((kk_rd σ 20 v3_1) ^^^ (kk_rd σ 20 v1)) &&& v2) = 0 → Q (1 : Int32)))))))) (0 : Int32))
def f_X7_hasCrampedPost (v1 : Int32) (σ : kk_St) (Q : Int32 → Prop) : Prop :=
 (kk_lp1 (fun (rec_2 : Int32 → Prop) (v2_1 : Int32) =>
 (((σ.1 1 5) ≤ v2_1 → Q (0 : Int32)) ∧
 (¬ (σ.1 1 5) ≤ v2_1 → (vp_in v2_1 9 ∧
 (kk_lp2 (fun (rec_5 : Int32 → Int32 → Prop) (v4_3 : Int32) (v5_4 : Int32) =>
 (((9 : Int32) ≤ v5_4 → (f_J6_bitCount_0f7a4 (v1 &&& (kk_rd σ 14 v2_1)) (fun (r_6 : Int32) =>
 ((r_6 ≤ v4_3 → rec_2 (v2_1 + (1 : Int32))) ∧
 (¬ r_6 ≤ v4_3 → Q (1 : Int32)))))) ∧
 (¬ (9 : Int32) ≤ v5_4 → (vp_in v5_4 9 ∧
 (kk_j1 (fun (v4_8 : Int32) => rec_5 v4_8 (v5_4 + (1 : Int32)))
 (fun (J_9 : Int32 → Prop) => ((((kk_rd σ 20 v5_4) &&& (v1 &&& (kk_rd σ 14 v2_1))) = 0 → J_9 v4_3) ∧
 (¬ ((kk_rd σ 20 v5_4) &&& (v1 &&& (kk_rd σ 14 v2_1))) = 0 → J_9 (v4_3 + (1 : Int32)))))))))) (0 : Int32) (0 : Int32)))))) (0 : Int32))
def f_X7_roomOfColours (v1 : Int32) (σ : kk_St) (Q : Int32 → Prop) : Prop :=
 (kk_lp2 (fun (rec_3 : Int32 → Int32 → Prop) (v2_1 : Int32) (v3_2 : Int32) =>
 (((9 : Int32) ≤ v3_2 → Q v2_1) ∧
 (¬ (9 : Int32) ≤ v3_2 → (vp_in v3_2 9 ∧
 (f_X6_postsOf ((kk_rd σ 20 v3_2) &&& v1) σ (fun (r_4 : Int32) =>
 (f_J6_bitCount_0f7a4 r_4 (fun (r_5 : Int32) =>
 (∀ v2_6 : Int32, v2_6 = (v2_1 + (r_5 / (2 : Int32))) → rec_3 v2_6 (v3_2 + (1 : Int32))))))))))) (0 : Int32) (0 : Int32))
def f_X7_isHopeless (v1 : Int32) (σ : kk_St) (Q : Int32 → Prop) : Prop :=
 (f_X7_roomOfColours v1 σ (fun (r_1 : Int32) =>
 (f_J6_bitCount_0f7a4 v1 (fun (r_2 : Int32) =>
 (kk_j1 (fun (t_3 : Int32) => ((t_3 = 0 ∨ t_3 = 1) ∧ Q t_3))
 (fun (J_4 : Int32 → Prop) => (kk_j0 (J_4 (1 : Int32))
 (fun (J_5 : Prop) => ((r_1 < r_2 → J_5) ∧
 (¬ r_1 < r_2 → (f_X7_hasCrampedPost v1 σ (fun (r_6 : Int32) =>
 ((r_6 = 0 → J_4 (0 : Int32)) ∧
 (¬ r_6 = 0 → J_5))))))))))))))
def f_X7_tightest (v1 : Int32) (σ : kk_St) (Q : Int32 → Prop) : Prop :=
 (kk_lp3 (fun (rec_4 : Int32 → Int32 → Int32 → Prop) (v2_1 : Int32) (v3_2 : Int32) (v4_3 : Int32) =>
 (((σ.1 1 6) ≤ v4_3 → (kk_j1 (fun (t_5 : Int32) => Q t_5)
 (fun (J_6 : Int32 → Prop) => ((¬ v3_2 = 0 → J_6 v2_1) ∧
 (v3_2 = 0 → J_6 (-1 : Int32)))))) ∧
 (¬ (σ.1 1 6) ≤ v4_3 → (kk_j2 (fun (v2_8 : Int32) (v3_9 : Int32) => rec_4 v2_8 v3_9 (v4_3 + (1 : Int32)))
 (fun (J_10 : Int32 → Int32 → Prop) => ((((v1 >>> (v4_3 &&& 31)) &&& (1 : Int32)) = 0 → J_10 v2_1 v3_2) ∧
 (¬ ((v1 >>> (v4_3 &&& 31)) &&& (1 : Int32)) = 0 → (kk_lp2 (fun (rec_13 : Int32 → Int32 → Prop) (v5_11 : Int32) (v6_12 : Int32) =>
 (((9 : Int32) ≤ v6_12 → ((v3_2 ≤ v5_11 → J_10 v2_1 v3_2) ∧
 (¬ v3_2 ≤ v5_11 → J_10 v4_3 v5_11))) ∧
 (¬ (9 : Int32) ≤ v6_12 → (vp_in v6_12 9 ∧
 (∀ v5_15 : Int32, v5_15 = (v5_11 + (((kk_rd σ 20 v6_12) >>> (v4_3 &&& 31)) &&& (1 : Int32))) → rec_13 v5_15 (v6_12 + (1 : Int32))))))) (0 : Int32) (0 : Int32))))))))) (-1 : Int32) (10 : Int32) (0 : Int32))
def f_X7_complete : Nat → Int32 → Int32 → kk_St → (Int32 → kk_St → Prop) → Prop
| 0, _, _, _, _ => False
| n + 1, v1, v2, σ, Q =>
 ((¬ v1 = 0 → (f_X7_tightest v1 σ (fun (r_1 : Int32) =>
 (kk_j0 (Q (0 : Int32) σ)
 (fun (J_2 : Prop) => (((20 : Int32) ≤ v2 → J_2) ∧
 (¬ (20 : Int32) ≤ v2 → ((r_1 = (-1 : Int32) → J_2) ∧
 (¬ r_1 = (-1 : Int32) → (f_X7_isHopeless v1 σ (fun (r_3 : Int32) =>
 ((r_3 = 0 → (∀ v4_4 : Int32, v4_4 = (v1 &&& (((1 : Int32) <<< (r_1 &&& 31)) ^^^ (-1 : Int32))) → (kk_lp2 (fun (rec_7 : Int32 → kk_St → Prop) (v5_5 : Int32) (σ_6 : kk_St) =>
 (((9 : Int32) ≤ v5_5 → Q (0 : Int32) σ_6) ∧
 (¬ (9 : Int32) ≤ v5_5 → (vp_in v5_5 9 ∧
 (kk_j1 (fun (t_8 : Int32) => (kk_j1 (fun (σ_10 : kk_St) => rec_7 (v5_5 + (1 : Int32)) σ_10)
 (fun (J_11 : kk_St → Prop) => ((t_8 = 0 → J_11 σ_6) ∧
 (¬ t_8 = 0 → (f_X7_completeWith (f_X7_complete n) r_1 v5_5 v4_4 (v2 + (1 : Int32)) σ_6 (fun (r_12 : Int32) (σ_13 : kk_St) =>
 ((r_12 = 0 → J_11 σ_13) ∧
 (¬ r_12 = 0 → Q (1 : Int32) σ_13)))))))))
 (fun (J_9 : Int32 → Prop) => (kk_j0 (J_9 (0 : Int32))
 (fun (J_16 : Prop) => (((((kk_rd σ_6 20 v5_5) >>> (r_1 &&& 31)) &&& (1 : Int32)) = 0 → J_16) ∧
 (¬ (((kk_rd σ_6 20 v5_5) >>> (r_1 &&& 31)) &&& (1 : Int32)) = 0 → (f_X7_hasTwin v5_5 v1 σ_6 (fun (r_17 : Int32) =>
 ((¬ r_17 = 0 → J_16) ∧
 (r_17 = 0 → J_9 (1 : Int32))))))))))))))) (0 : Int32) σ))) ∧
 (¬ r_3 = 0 → J_2))))))))))))) ∧
 (v1 = 0 → Q (1 : Int32) σ))
def f_X7_openBelow (v1 : Int32) (σ : kk_St) (Q : kk_St → Prop) : Prop :=
 (kk_lp2 (fun (rec_3 : Int32 → kk_St → Prop) (v2_1 : Int32) (σ_2 : kk_St) =>
 (((9 : Int32) ≤ v2_1 → Q σ_2) ∧
 (¬ (9 : Int32) ≤ v2_1 → (kk_j1 (fun (t_4 : Int32) => (vp_in v2_1 9 ∧
 (∀ σ_6 : kk_St, σ_6 = (kk_wr σ_2 20 (Int32.toNatClampNeg v2_1) t_4) → rec_3 (v2_1 + (1 : Int32)) σ_6)))
 (fun (J_5 : Int32 → Prop) => ((v1 ≤ v2_1 → J_5 (0 : Int32)) ∧
 (¬ v1 ≤ v2_1 → (f_X6_allLines σ_2 (fun (r_7 : Int32) =>
 J_5 r_7))))))))) (0 : Int32) σ)
def f_X7_canDo (v1 : Int32) (v2 : Int32) (σ : kk_St) (Q : Int32 → kk_St → Prop) : Prop :=
 (f_X6_mostAtOnePost v1 σ (fun (r_1 : Int32) =>
 ((r_1 = v2 → (f_X6_crowdedSet v1 v2 σ (fun (r_2 : Int32) =>
 ((r_2 = 0 → (f_X7_openBelow v2 σ (fun (σ_3 : kk_St) =>
 (f_X7_complete 30 v1 (0 : Int32) σ_3 (fun (r_4 : Int32) (σ_5 : kk_St) =>
 ((r_4 = 0 ∨ r_4 = 1) ∧ Q r_4 σ_5)))))) ∧
 (¬ r_2 = 0 → Q (0 : Int32) σ))))) ∧
 (¬ r_1 = v2 → (kk_j1 (fun (t_7 : Int32) => ((t_7 = 0 ∨ t_7 = 1) ∧ Q t_7 σ))
 (fun (J_8 : Int32 → Prop) => ((v2 ≤ r_1 → J_8 (0 : Int32)) ∧
 (¬ v2 ≤ r_1 → J_8 (1 : Int32)))))))))
def f_X7_fewest (σ : kk_St) (Q : Int32 → kk_St → Prop) : Prop :=
 (kk_j1 (fun (σ_1 : kk_St) => Q (σ_1.1 7 6) σ_1)
 (fun (J_2 : kk_St → Prop) => ((¬ (σ.1 7 6) = (-1 : Int32) → J_2 σ) ∧
 ((σ.1 7 6) = (-1 : Int32) → (f_X6_allLines σ (fun (r_3 : Int32) =>
 (f_X7_canDo r_3 (σ.1 1 7) σ (fun (r_4 : Int32) (σ_5 : kk_St) =>
 (kk_j1 (fun (t_6 : Int32) => (∀ σ_8 : kk_St, σ_8 = (kk_wr σ_5 7 6 t_6) → J_2 σ_8))
 (fun (J_7 : Int32 → Prop) => ((r_4 = 0 → J_7 ((σ_5.1 1 7) + (1 : Int32))) ∧
 (¬ r_4 = 0 → J_7 (σ_5.1 1 7)))))))))))))
def f_X7_dearLines (σ : kk_St) (Q : Int32 → kk_St → Prop) : Prop :=
 (kk_j1 (fun (σ_1 : kk_St) => Q (σ_1.1 7 7) σ_1)
 (fun (J_2 : kk_St → Prop) => ((¬ (σ.1 7 7) = (-1 : Int32) → J_2 σ) ∧
 ((σ.1 7 7) = (-1 : Int32) → (kk_lp3 (fun (rec_6 : Int32 → Int32 → kk_St → Prop) (v1_3 : Int32) (v2_4 : Int32) (σ_5 : kk_St) =>
 (((σ_5.1 1 6) ≤ v2_4 → (∀ σ_7 : kk_St, σ_7 = (kk_wr σ_5 7 7 v1_3) → J_2 σ_7)) ∧
 (¬ (σ_5.1 1 6) ≤ v2_4 → (f_X6_allLines σ_5 (fun (r_8 : Int32) =>
 (f_X7_fewest σ_5 (fun (r_9 : Int32) (σ_10 : kk_St) =>
 (f_X7_canDo (r_8 &&& (((1 : Int32) <<< (v2_4 &&& 31)) ^^^ (-1 : Int32))) (r_9 - (1 : Int32)) σ_10 (fun (r_11 : Int32) (σ_12 : kk_St) =>
 (kk_j1 (fun (v1_13 : Int32) => rec_6 v1_13 (v2_4 + (1 : Int32)) σ_12)
 (fun (J_14 : Int32 → Prop) => ((r_11 = 0 → J_14 v1_3) ∧
 (¬ r_11 = 0 → (∀ v1_15 : Int32, v1_15 = (v1_3 ||| ((1 : Int32) <<< (v2_4 &&& 31))) → J_14 v1_15)))))))))))))) (0 : Int32) (0 : Int32) σ)))))
def f_X10_critical (σ : kk_St) (Q : Int32 → kk_St → Prop) : Prop :=
 (f_X7_dearLines σ (fun (r_1 : Int32) (σ_2 : kk_St) =>
 Q r_1 σ_2))
def f_X2_greatestUsed (σ : kk_St) (Q : Int32 → Prop) : Prop :=
 (kk_lp2 (fun (rec_3 : Int32 → Int32 → Prop) (v1_1 : Int32) (v2_2 : Int32) =>
 (((9 : Int32) ≤ v2_2 → Q v1_1) ∧
 (¬ (9 : Int32) ≤ v2_2 → (vp_in v2_2 9 ∧
 (kk_j1 (fun (v1_4 : Int32) => rec_3 v1_4 (v2_2 + (1 : Int32)))
 (fun (J_5 : Int32 → Prop) => (((kk_rd σ 17 v2_2) = 0 → J_5 v1_1) ∧
 (¬ (kk_rd σ 17 v2_2) = 0 → J_5 v2_2)))))))) (-1 : Int32) (0 : Int32))
def f_X2_howMany (v1 : Int32) (σ : kk_St) (Q : Int32 → Prop) : Prop :=
 (vp_in v1 9 ∧
 (f_J6_bitCount_0f7a4 (kk_rd σ 17 v1) (fun (r_1 : Int32) =>
 Q r_1)))
def f_X2_leaningChain (v1 : Int32) (v2 : Int32) (σ : kk_St) (Q : Int32 → Prop) : Prop :=
 (vp_in v1 9 ∧
 (vp_in v2 9 ∧
 (∀ v3_1 : Int32, v3_1 = ((kk_rd σ 17 v1) ||| (kk_rd σ 17 v2)) → (kk_lp2 (fun (rec_4 : Int32 → Int32 → Prop) (v4_2 : Int32) (v5_3 : Int32) =>
 (((σ.1 1 6) ≤ v5_3 → Q (0 : Int32)) ∧
 (¬ (σ.1 1 6) ≤ v5_3 → (kk_j1 (fun (v4_5 : Int32) => rec_4 v4_5 (v5_3 + (1 : Int32)))
 (fun (J_6 : Int32 → Prop) => ((((v4_2 >>> (v5_3 &&& 31)) &&& (1 : Int32)) = 0 → J_6 v4_2) ∧
 (¬ ((v4_2 >>> (v5_3 &&& 31)) &&& (1 : Int32)) = 0 → (f_X6_joined ((1 : Int32) <<< (v5_3 &&& 31)) v3_1 σ (fun (r_7 : Int32) =>
 (∀ v4_8 : Int32, v4_8 = (v4_2 &&& (r_7 ^^^ (-1 : Int32))) → (vp_in v1 9 ∧
 (f_J6_bitCount_0f7a4 (r_7 &&& (kk_rd σ 17 v1)) (fun (r_9 : Int32) =>
 (vp_in v2 9 ∧
 (f_J6_bitCount_0f7a4 (r_7 &&& (kk_rd σ 17 v2)) (fun (r_10 : Int32) =>
 ((r_9 ≤ r_10 → J_6 v4_8) ∧
 (¬ r_9 ≤ r_10 → Q r_7)))))))))))))))))) v3_1 (0 : Int32)))))
def f_X3_flip (v1 : Int32) (v2 : Int32) (v3 : Int32) (σ : kk_St) (Q : kk_St → Prop) : Prop :=
 (vp_in v2 9 ∧
 (vp_in v2 9 ∧
 (∀ σ_1 : kk_St, σ_1 = (kk_wr σ 17 (Int32.toNatClampNeg v2) ((kk_rd σ 17 v2) ^^^ v1)) → (vp_in v3 9 ∧
 (vp_in v3 9 ∧
 (∀ σ_2 : kk_St, σ_2 = (kk_wr σ_1 17 (Int32.toNatClampNeg v3) ((kk_rd σ_1 17 v3) ^^^ v1)) → (kk_lp2 (fun (rec_5 : Int32 → kk_St → Prop) (v4_3 : Int32) (σ_4 : kk_St) =>
 (((σ_4.1 1 6) ≤ v4_3 → Q σ_4) ∧
 (¬ (σ_4.1 1 6) ≤ v4_3 → (kk_j1 (fun (σ_6 : kk_St) => rec_5 (v4_3 + (1 : Int32)) σ_6)
 (fun (J_7 : kk_St → Prop) => ((((v1 >>> (v4_3 &&& 31)) &&& (1 : Int32)) = 0 → J_7 σ_4) ∧
 (¬ ((v1 >>> (v4_3 &&& 31)) &&& (1 : Int32)) = 0 → (vp_in v4_3 20 ∧
 (kk_j1 (fun (t_8 : Int32) => (vp_in v4_3 20 ∧
 (∀ σ_10 : kk_St, σ_10 = (kk_wr σ_4 16 (Int32.toNatClampNeg v4_3) t_8) → J_7 σ_10)))
 (fun (J_9 : Int32 → Prop) => ((¬ (kk_rd σ_4 16 v4_3) = v2 → J_9 v2) ∧
 ((kk_rd σ_4 16 v4_3) = v2 → J_9 v3)))))))))))) (0 : Int32) σ_2)))))))
def f_X2_makeEven (σ : kk_St) (Q : Int32 → kk_St → Prop) : Prop :=
 (kk_lp2 (fun (rec_3 : Int32 → kk_St → Prop) (v1_1 : Int32) (σ_2 : kk_St) =>
 (((1000 : Int32) ≤ v1_1 → Q (1000 : Int32) σ_2) ∧
 (¬ (1000 : Int32) ≤ v1_1 → (kk_lp3 (fun (rec_7 : Int32 → Int32 → Int32 → Prop) (v2_4 : Int32) (v3_5 : Int32) (v4_6 : Int32) =>
 (f_X2_greatestUsed σ_2 (fun (r_8 : Int32) =>
 ((r_8 < v4_6 → (f_X2_howMany v2_4 σ_2 (fun (r_9 : Int32) =>
 (f_X2_howMany v3_5 σ_2 (fun (r_10 : Int32) =>
 (((r_10 + (2 : Int32)) ≤ r_9 → (f_X2_leaningChain v2_4 v3_5 σ_2 (fun (r_11 : Int32) =>
 (f_X3_flip r_11 v2_4 v3_5 σ_2 (fun (σ_12 : kk_St) =>
 rec_3 (v1_1 + (1 : Int32)) σ_12))))) ∧
 (¬ (r_10 + (2 : Int32)) ≤ r_9 → Q v1_1 σ_2))))))) ∧
 (¬ r_8 < v4_6 → (f_X2_howMany v4_6 σ_2 (fun (r_14 : Int32) =>
 (f_X2_howMany v2_4 σ_2 (fun (r_15 : Int32) =>
 (kk_j1 (fun (t_16 : Int32) => (f_X2_howMany v4_6 σ_2 (fun (r_18 : Int32) =>
 (f_X2_howMany v3_5 σ_2 (fun (r_19 : Int32) =>
 (kk_j1 (fun (t_20 : Int32) => rec_7 t_16 t_20 (v4_6 + (1 : Int32)))
 (fun (J_21 : Int32 → Prop) => ((r_19 ≤ r_18 → J_21 v3_5) ∧
 (¬ r_19 ≤ r_18 → J_21 v4_6)))))))))
 (fun (J_17 : Int32 → Prop) => ((r_14 ≤ r_15 → J_17 v2_4) ∧
 (¬ r_14 ≤ r_15 → J_17 v4_6))))))))))))) (0 : Int32) (0 : Int32) (1 : Int32))))) (0 : Int32) σ)
def f_X10_even (σ : kk_St) (Q : Int32 → kk_St → Prop) : Prop :=
 (f_X2_makeEven σ (fun (r_1 : Int32) (σ_2 : kk_St) =>
 Q r_1 σ_2))
def f_X6_farEnd (v1 : Int32) (v2 : Int32) (σ : kk_St) (Q : Int32 → Prop) : Prop :=
 (vp_in v1 20 ∧
 (kk_j1 (fun (t_1 : Int32) => Q t_1)
 (fun (J_2 : Int32 → Prop) => ((¬ (kk_rd σ 11 v1) = v2 → (vp_in v1 20 ∧
 J_2 (kk_rd σ 11 v1))) ∧
 ((kk_rd σ 11 v1) = v2 → (vp_in v1 20 ∧
 J_2 (kk_rd σ 12 v1)))))))
def f_X4_follower (v1 : Int32) (v2 : Int32) (v3 : Int32) (σ : kk_St) (Q : Int32 → Prop) : Prop :=
 (f_X3_freeAt v2 σ (fun (r_1 : Int32) =>
 (kk_lp1 (fun (rec_3 : Int32 → Prop) (v5_2 : Int32) =>
 (((9 : Int32) ≤ v5_2 → Q (-1 : Int32)) ∧
 (¬ (9 : Int32) ≤ v5_2 → (f_X3_lineWith v1 v5_2 σ (fun (r_4 : Int32) =>
 (kk_j0 (rec_3 (v5_2 + (1 : Int32)))
 (fun (J_5 : Prop) => ((((r_1 >>> (v5_2 &&& 31)) &&& (1 : Int32)) = 0 → J_5) ∧
 (¬ ((r_1 >>> (v5_2 &&& 31)) &&& (1 : Int32)) = 0 → ((r_4 = (-1 : Int32) → J_5) ∧
 (¬ r_4 = (-1 : Int32) → (f_X6_farEnd r_4 v1 σ (fun (r_6 : Int32) =>
 ((¬ ((v3 >>> (r_6 &&& 31)) &&& (1 : Int32)) = 0 → J_5) ∧
 (((v3 >>> (r_6 &&& 31)) &&& (1 : Int32)) = 0 → Q r_6))))))))))))))) (0 : Int32))))
def f_X4_lay (v1 : Int32) (v2 : Int32) (σ : kk_St) (Q : kk_St → Prop) : Prop :=
 (f_X6_farEnd v1 v2 σ (fun (r_1 : Int32) =>
 (vp_in (0 : Int32) 9 ∧
 (∀ σ_2 : kk_St, σ_2 = (kk_wr σ 18 (Int32.toNatClampNeg (0 : Int32)) r_1) → (∀ σ_3 : kk_St, σ_3 = (kk_wr σ_2 3 3 (1 : Int32)) → (vp_in (0 : Int32) 9 ∧
 (∀ v3_4 : Int32, v3_4 = ((1 : Int32) <<< ((kk_rd σ_3 18 (0 : Int32)) &&& 31)) → (kk_lp3 (fun (rec_8 : Int32 → Int32 → kk_St → Prop) (v3_5 : Int32) (v4_6 : Int32) (σ_7 : kk_St) =>
 (((9 : Int32) ≤ v4_6 → Q σ_7) ∧
 (¬ (9 : Int32) ≤ v4_6 → (vp_in (v4_6 - (1 : Int32)) 9 ∧
 (f_X4_follower v2 (kk_rd σ_7 18 (v4_6 - (1 : Int32))) v3_5 σ_7 (fun (r_9 : Int32) =>
 ((¬ r_9 = (-1 : Int32) → (vp_in v4_6 9 ∧
 (∀ σ_10 : kk_St, σ_10 = (kk_wr σ_7 18 (Int32.toNatClampNeg v4_6) r_9) → (∀ v3_11 : Int32, v3_11 = (v3_5 ||| ((1 : Int32) <<< (r_9 &&& 31))) → (∀ σ_12 : kk_St, σ_12 = (kk_wr σ_10 3 3 (v4_6 + (1 : Int32))) → rec_8 v3_11 (v4_6 + (1 : Int32)) σ_12))))) ∧
 (r_9 = (-1 : Int32) → Q σ_7)))))))) v3_4 (1 : Int32) σ_3))))))))
def f_X10_fan (v1 : Int32) (v2 : Int32) (v3 : Int32) (σ : kk_St) (Q : Int32 → kk_St → Prop) : Prop :=
 (f_X6_isLine v1 σ (fun (r_1 : Int32) =>
 (kk_j0 (Q (-1 : Int32) σ)
 (fun (J_2 : Prop) => ((r_1 = 0 → J_2) ∧
 (¬ r_1 = 0 → ((v3 < (-1 : Int32) → J_2) ∧
 (¬ v3 < (-1 : Int32) → (vp_in v1 20 ∧
 (kk_j0 ((vp_in v1 20 ∧
 (((kk_rd σ 16 v1) = (-1 : Int32) → (f_X4_lay v1 v2 σ (fun (σ_4 : kk_St) =>
 ((¬ v3 = (-1 : Int32) → (kk_j1 (fun (t_5 : Int32) => Q t_5 σ_4)
 (fun (J_6 : Int32 → Prop) => (((σ_4.1 3 3) ≤ v3 → J_6 (-1 : Int32)) ∧
 (¬ (σ_4.1 3 3) ≤ v3 → (vp_in v3 9 ∧
 J_6 (kk_rd σ_4 18 v3))))))) ∧
 (v3 = (-1 : Int32) → Q (σ_4.1 3 3) σ_4))))) ∧
 (¬ (kk_rd σ 16 v1) = (-1 : Int32) → Q (-2 : Int32) σ))))
 (fun (J_3 : Prop) => (((kk_rd σ 11 v1) = v2 → J_3) ∧
 (¬ (kk_rd σ 11 v1) = v2 → (vp_in v1 20 ∧
 (((kk_rd σ 12 v1) = v2 → J_3) ∧
 (¬ (kk_rd σ 12 v1) = v2 → J_2))))))))))))))))
def f_X10_isFew (v0 : Int32) (Q : Int32 → Prop) : Prop :=
 (kk_j1 (fun (t_1 : Int32) => ((t_1 = 0 ∨ t_1 = 1) ∧ Q t_1))
 (fun (J_2 : Int32 → Prop) => (kk_j0 (J_2 (0 : Int32))
 (fun (J_3 : Prop) => ((v0 < 0 → J_3) ∧
 (¬ v0 < 0 → (((9 : Int32) < v0 → J_3) ∧
 (¬ (9 : Int32) < v0 → J_2 (1 : Int32)))))))))
def f_X7_fixLeast (v1 : Int32) (v2 : Int32) (σ : kk_St) (Q : kk_St → Prop) : Prop :=
 (kk_lp2 (fun (rec_3 : Int32 → kk_St → Prop) (v3_1 : Int32) (σ_2 : kk_St) =>
 (vp_in v1 20 ∧
 (((kk_rd σ_2 21 v1) ≤ v3_1 → Q σ_2) ∧
 (¬ (kk_rd σ_2 21 v1) ≤ v3_1 → (vp_in v3_1 9 ∧
 (kk_j1 (fun (σ_4 : kk_St) => rec_3 (v3_1 + (1 : Int32)) σ_4)
 (fun (J_5 : kk_St → Prop) => (((((kk_rd σ_2 20 v3_1) >>> (v1 &&& 31)) &&& (1 : Int32)) = 0 → J_5 σ_2) ∧
 (¬ (((kk_rd σ_2 20 v3_1) >>> (v1 &&& 31)) &&& (1 : Int32)) = 0 → (f_X7_completeWith (f_X7_complete 30) v1 v3_1 v2 (0 : Int32) σ_2 (fun (r_6 : Int32) (σ_7 : kk_St) =>
 ((r_6 = 0 → J_5 σ_7) ∧
 (¬ r_6 = 0 → Q σ_7))))))))))))) (0 : Int32) σ)
def f_X7_findLeast (σ : kk_St) (Q : Int32 → kk_St → Prop) : Prop :=
 (f_X6_allLines σ (fun (r_1 : Int32) =>
 (f_X7_complete 30 r_1 (0 : Int32) σ (fun (r_2 : Int32) (σ_3 : kk_St) =>
 ((¬ r_2 = 0 → (kk_lp3 (fun (rec_7 : Int32 → Int32 → kk_St → Prop) (v1_4 : Int32) (v2_5 : Int32) (σ_6 : kk_St) =>
 (((σ_6.1 1 6) ≤ v2_5 → Q (1 : Int32) σ_6) ∧
 (¬ (σ_6.1 1 6) ≤ v2_5 → (∀ v1_8 : Int32, v1_8 = (v1_4 &&& (((1 : Int32) <<< (v2_5 &&& 31)) ^^^ (-1 : Int32))) → (f_X7_fixLeast v2_5 v1_8 σ_6 (fun (σ_9 : kk_St) =>
 (vp_in v2_5 20 ∧
 (vp_in v2_5 20 ∧
 (∀ σ_10 : kk_St, σ_10 = (kk_wr σ_9 22 (Int32.toNatClampNeg v2_5) (kk_rd σ_9 21 v2_5)) → (vp_in v2_5 20 ∧
 (vp_in (kk_rd σ_10 21 v2_5) 9 ∧
 (vp_in v2_5 20 ∧
 (vp_in (kk_rd σ_10 21 v2_5) 9 ∧
 (∀ σ_11 : kk_St, σ_11 = (kk_wr σ_10 20 (Int32.toNatClampNeg (kk_rd σ_10 21 v2_5)) ((kk_rd σ_10 20 (kk_rd σ_10 21 v2_5)) &&& ((kk_rd σ_10 13 v2_5) ^^^ (-1 : Int32)))) → rec_7 v1_8 (v2_5 + (1 : Int32)) σ_11)))))))))))))) r_1 (0 : Int32) σ_3)) ∧
 (r_2 = 0 → Q (0 : Int32) σ_3))))))
def f_X7_findFirst (v1 : Int32) (σ : kk_St) (Q : Int32 → kk_St → Prop) : Prop :=
 (kk_j1 (fun (σ_1 : kk_St) => (((σ_1.1 7 5) = 0 ∨ (σ_1.1 7 5) = 1) ∧ Q (σ_1.1 7 5) σ_1))
 (fun (J_2 : kk_St → Prop) => (((σ.1 7 4) = v1 → J_2 σ) ∧
 (¬ (σ.1 7 4) = v1 → (∀ σ_3 : kk_St, σ_3 = (kk_wr σ 7 4 v1) → (f_X7_fewest σ_3 (fun (r_4 : Int32) (σ_5 : kk_St) =>
 (kk_j1 (fun (t_6 : Int32) => ((t_6 = 0 ∨ t_6 = 1) ∧ (∀ σ_8 : kk_St, σ_8 = (kk_wr σ_5 7 5 t_6) → (((σ_8.1 7 5) = 0 → J_2 σ_8) ∧
 (¬ (σ_8.1 7 5) = 0 → (f_X7_openBelow v1 σ_8 (fun (σ_9 : kk_St) =>
 (f_X7_findLeast σ_9 (fun (r_10 : Int32) (σ_11 : kk_St) =>
 ((r_10 = 0 ∨ r_10 = 1) ∧ (∀ σ_12 : kk_St, σ_12 = (kk_wr σ_11 7 5 r_10) → J_2 σ_12)))))))))))
 (fun (J_7 : Int32 → Prop) => ((v1 < r_4 → J_7 (0 : Int32)) ∧
 (¬ v1 < r_4 → J_7 (1 : Int32))))))))))))
def f_X10_first (v1 : Int32) (v2 : Int32) (σ : kk_St) (Q : Int32 → kk_St → Prop) : Prop :=
 (f_X10_isFew v1 (fun (r_1 : Int32) =>
 (kk_j0 (Q (-1 : Int32) σ)
 (fun (J_2 : Prop) => ((r_1 = 0 → J_2) ∧
 (¬ r_1 = 0 → (f_X6_isLine v2 σ (fun (r_3 : Int32) =>
 ((¬ r_3 = 0 → (f_X7_findFirst v1 σ (fun (r_4 : Int32) (σ_5 : kk_St) =>
 (kk_j1 (fun (t_6 : Int32) => Q t_6 σ_5)
 (fun (J_7 : Int32 → Prop) => ((r_4 = 0 → J_7 (-2 : Int32)) ∧
 (¬ r_4 = 0 → (vp_in v2 20 ∧
 J_7 (kk_rd σ_5 22 v2))))))))) ∧
 (r_3 = 0 → J_2))))))))))
def f_X10_free (v1 : Int32) (σ : kk_St) (Q : Int32 → Prop) : Prop :=
 (f_X6_isLine v1 σ (fun (r_1 : Int32) =>
 (kk_j1 (fun (t_2 : Int32) => Q t_2)
 (fun (J_3 : Int32 → Prop) => ((r_1 = 0 → J_3 (-1 : Int32)) ∧
 (¬ r_1 = 0 → (f_X3_freeAtBoth v1 σ (fun (r_4 : Int32) =>
 J_3 r_4))))))))
def f_X3_isFreeAt (v1 : Int32) (v2 : Int32) (σ : kk_St) (Q : Int32 → Prop) : Prop :=
 (f_X3_freeAt v1 σ (fun (r_1 : Int32) =>
 (kk_j1 (fun (t_2 : Int32) => ((t_2 = 0 ∨ t_2 = 1) ∧ Q t_2))
 (fun (J_3 : Int32 → Prop) => ((((r_1 >>> (v2 &&& 31)) &&& (1 : Int32)) = 0 → J_3 (0 : Int32)) ∧
 (¬ ((r_1 >>> (v2 &&& 31)) &&& (1 : Int32)) = 0 → J_3 (1 : Int32)))))))
def f_X3_leastFreeAt (v1 : Int32) (σ : kk_St) (Q : Int32 → Prop) : Prop :=
 (f_X3_freeAt v1 σ (fun (r_1 : Int32) =>
 (f_J6_numberOfTrailingZeros_0f7a4 r_1 (fun (r_2 : Int32) =>
 Q r_2))))
def f_X6_lineBetween (v1 : Int32) (v2 : Int32) (σ : kk_St) (Q : Int32 → Prop) : Prop :=
 (vp_in v1 9 ∧
 (vp_in v2 9 ∧
 (∀ v3_1 : Int32, v3_1 = ((kk_rd σ 14 v1) &&& (kk_rd σ 14 v2)) → (kk_j1 (fun (t_2 : Int32) => Q t_2)
 (fun (J_3 : Int32 → Prop) => ((¬ v3_1 = 0 → (f_J6_numberOfTrailingZeros_0f7a4 v3_1 (fun (r_4 : Int32) =>
 J_3 r_4))) ∧
 (v3_1 = 0 → J_3 (-1 : Int32))))))))
def f_X4_follows (v1 : Int32) (v2 : Int32) (σ : kk_St) (Q : Int32 → Prop) : Prop :=
 (vp_in v2 9 ∧
 (f_X6_lineBetween v1 (kk_rd σ 18 v2) σ (fun (r_1 : Int32) =>
 (kk_j0 (Q (0 : Int32))
 (fun (J_2 : Prop) => ((r_1 = (-1 : Int32) → J_2) ∧
 (¬ r_1 = (-1 : Int32) → (vp_in r_1 20 ∧
 ((¬ (kk_rd σ 16 r_1) = (-1 : Int32) → (vp_in (v2 - (1 : Int32)) 9 ∧
 (vp_in r_1 20 ∧
 (f_X3_isFreeAt (kk_rd σ 18 (v2 - (1 : Int32))) (kk_rd σ 16 r_1) σ (fun (r_3 : Int32) =>
 ((r_3 = 0 ∨ r_3 = 1) ∧ Q r_3)))))) ∧
 ((kk_rd σ 16 r_1) = (-1 : Int32) → J_2))))))))))
def f_X4_placeLacking (v1 : Int32) (v2 : Int32) (σ : kk_St) (Q : Int32 → Prop) : Prop :=
 (kk_lp1 (fun (rec_2 : Int32 → Prop) (v3_1 : Int32) =>
 (((σ.1 3 3) ≤ v3_1 → Q (-1 : Int32)) ∧
 (¬ (σ.1 3 3) ≤ v3_1 → (kk_j0 ((vp_in v3_1 9 ∧
 (f_X3_isFreeAt (kk_rd σ 18 v3_1) v2 σ (fun (r_4 : Int32) =>
 ((r_4 = 0 → rec_2 (v3_1 + (1 : Int32))) ∧
 (¬ r_4 = 0 → Q v3_1))))))
 (fun (J_3 : Prop) => ((v3_1 ≤ 0 → J_3) ∧
 (¬ v3_1 ≤ 0 → (f_X4_follows v1 v3_1 σ (fun (r_6 : Int32) =>
 ((¬ r_6 = 0 → J_3) ∧
 (r_6 = 0 → Q (-1 : Int32)))))))))))) (0 : Int32))
def f_X4_shift (v1 : Int32) (v2 : Int32) (v3 : Int32) (σ : kk_St) (Q : kk_St → Prop) : Prop :=
 (vp_in (0 : Int32) 9 ∧
 (f_X6_lineBetween v1 (kk_rd σ 18 (0 : Int32)) σ (fun (r_1 : Int32) =>
 (kk_j2 (fun (v4_2 : Int32) (σ_3 : kk_St) => (kk_j1 (fun (σ_5 : kk_St) => Q σ_5)
 (fun (J_6 : kk_St → Prop) => ((v4_2 = (-1 : Int32) → J_6 σ_3) ∧
 (¬ v4_2 = (-1 : Int32) → (f_X3_give v4_2 v3 σ_3 (fun (σ_7 : kk_St) =>
 J_6 σ_7)))))))
 (fun (J_4 : Int32 → kk_St → Prop) => (kk_lp3 (fun (rec_12 : Int32 → Int32 → kk_St → Prop) (v4_9 : Int32) (v5_10 : Int32) (σ_11 : kk_St) =>
 ((v2 < v5_10 → J_4 v4_9 σ_11) ∧
 (¬ v2 < v5_10 → ((v4_9 = (-1 : Int32) → J_4 v4_9 σ_11) ∧
 (¬ v4_9 = (-1 : Int32) → (vp_in v5_10 9 ∧
 (f_X6_lineBetween v1 (kk_rd σ_11 18 v5_10) σ_11 (fun (r_13 : Int32) =>
 (kk_j1 (fun (σ_14 : kk_St) => rec_12 r_13 (v5_10 + (1 : Int32)) σ_14)
 (fun (J_15 : kk_St → Prop) => ((r_13 = (-1 : Int32) → J_15 σ_11) ∧
 (¬ r_13 = (-1 : Int32) → (vp_in r_13 20 ∧
 (((kk_rd σ_11 16 r_13) = (-1 : Int32) → J_15 σ_11) ∧
 (¬ (kk_rd σ_11 16 r_13) = (-1 : Int32) → (vp_in r_13 20 ∧
 (f_X3_strip r_13 σ_11 (fun (σ_16 : kk_St) =>
 (f_X3_give v4_9 (kk_rd σ_11 16 r_13) σ_16 (fun (σ_17 : kk_St) =>
 J_15 σ_17)))))))))))))))))))) r_1 (1 : Int32) σ))))))
def f_X5_raise (v1 : Int32) (σ : kk_St) (Q : kk_St → Prop) : Prop :=
 (vp_in v1 20 ∧
 (f_X4_lay v1 (kk_rd σ 11 v1) σ (fun (σ_1 : kk_St) =>
 (f_X3_leastFreeAt (kk_rd σ 11 v1) σ_1 (fun (r_2 : Int32) =>
 (vp_in ((σ_1.1 3 3) - (1 : Int32)) 9 ∧
 (f_X3_leastFreeAt (kk_rd σ_1 18 ((σ_1.1 3 3) - (1 : Int32))) σ_1 (fun (r_3 : Int32) =>
 (f_X3_isFreeAt (kk_rd σ 11 v1) r_3 σ_1 (fun (r_4 : Int32) =>
 (kk_j2 (fun (v5_5 : Int32) (σ_6 : kk_St) => (f_X4_placeLacking (kk_rd σ 11 v1) r_3 σ_6 (fun (r_8 : Int32) =>
 (kk_j1 (fun (σ_9 : kk_St) => (vp_in (0 : Int32) 5 ∧
 (∀ σ_11 : kk_St, σ_11 = (kk_wr σ_9 19 (Int32.toNatClampNeg (0 : Int32)) r_2) → (vp_in (1 : Int32) 5 ∧
 (∀ σ_12 : kk_St, σ_12 = (kk_wr σ_11 19 (Int32.toNatClampNeg (1 : Int32)) r_3) → (vp_in (2 : Int32) 5 ∧
 (∀ σ_13 : kk_St, σ_13 = (kk_wr σ_12 19 (Int32.toNatClampNeg (2 : Int32)) (σ_12.1 3 3)) → (vp_in (3 : Int32) 5 ∧
 (∀ σ_14 : kk_St, σ_14 = (kk_wr σ_13 19 (Int32.toNatClampNeg (3 : Int32)) r_8) → (vp_in (4 : Int32) 5 ∧
 (∀ σ_15 : kk_St, σ_15 = (kk_wr σ_14 19 (Int32.toNatClampNeg (4 : Int32)) v5_5) → (∀ σ_16 : kk_St, σ_16 = (kk_wr σ_15 4 4 (1 : Int32)) → Q σ_16))))))))))))
 (fun (J_10 : kk_St → Prop) => ((r_8 = (-1 : Int32) → J_10 σ_6) ∧
 (¬ r_8 = (-1 : Int32) → (f_X4_shift (kk_rd σ 11 v1) r_8 r_3 σ_6 (fun (σ_17 : kk_St) =>
 J_10 σ_17)))))))))
 (fun (J_7 : Int32 → kk_St → Prop) => ((¬ r_4 = 0 → J_7 (0 : Int32) σ_1) ∧
 (r_4 = 0 → (f_X3_chainOf (kk_rd σ 11 v1) r_2 r_3 σ_1 (fun (r_19 : Int32) =>
 (f_X3_flip r_19 r_2 r_3 σ_1 (fun (σ_20 : kk_St) =>
 (f_J6_bitCount_0f7a4 r_19 (fun (r_21 : Int32) =>
 J_7 r_21 σ_20))))))))))))))))))))
def f_X10_grow (v1 : Int32) (σ : kk_St) (Q : Int32 → kk_St → Prop) : Prop :=
 (f_X6_isLine v1 σ (fun (r_1 : Int32) =>
 ((¬ r_1 = 0 → (vp_in v1 20 ∧
 (((kk_rd σ 16 v1) = (-1 : Int32) → (f_X5_raise v1 σ (fun (σ_2 : kk_St) =>
 (vp_in v1 20 ∧
 Q (kk_rd σ_2 16 v1) σ_2)))) ∧
 (¬ (kk_rd σ 16 v1) = (-1 : Int32) → Q (-2 : Int32) σ)))) ∧
 (r_1 = 0 → Q (-1 : Int32) σ))))
def f_X10_growAll (σ : kk_St) (Q : Int32 → kk_St → Prop) : Prop :=
 (kk_lp3 (fun (rec_4 : Int32 → Int32 → kk_St → Prop) (v1_1 : Int32) (v2_2 : Int32) (σ_3 : kk_St) =>
 (((σ_3.1 1 6) ≤ v2_2 → Q v1_1 σ_3) ∧
 (¬ (σ_3.1 1 6) ≤ v2_2 → (vp_in v2_2 20 ∧
 (kk_j2 (fun (v1_5 : Int32) (σ_6 : kk_St) => rec_4 v1_5 (v2_2 + (1 : Int32)) σ_6)
 (fun (J_7 : Int32 → kk_St → Prop) => ((¬ (kk_rd σ_3 16 v2_2) = (-1 : Int32) → J_7 v1_1 σ_3) ∧
 ((kk_rd σ_3 16 v2_2) = (-1 : Int32) → (f_X5_raise v2_2 σ_3 (fun (σ_8 : kk_St) =>
 J_7 (v1_1 + (1 : Int32)) σ_8)))))))))) (0 : Int32) (0 : Int32) σ)
def f_X10_grown (v1 : Int32) (σ : kk_St) (Q : Int32 → Prop) : Prop :=
 (kk_j0 (Q (-1 : Int32))
 (fun (J_1 : Prop) => (((σ.1 4 4) = 0 → J_1) ∧
 (¬ (σ.1 4 4) = 0 → ((v1 < 0 → J_1) ∧
 (¬ v1 < 0 → ((v1 < (5 : Int32) → (vp_in v1 5 ∧
 Q (kk_rd σ 19 v1))) ∧
 (¬ v1 < (5 : Int32) → J_1))))))))
def f_X10_idle (v1 : Int32) (σ : kk_St) (Q : Int32 → Prop) : Prop :=
 ((¬ v1 = (-1 : Int32) → (f_X6_isPost v1 σ (fun (r_1 : Int32) =>
 (kk_j1 (fun (t_2 : Int32) => Q t_2)
 (fun (J_3 : Int32 → Prop) => ((r_1 = 0 → J_3 (-2 : Int32)) ∧
 (¬ r_1 = 0 → (f_X3_coloursAt v1 σ (fun (r_4 : Int32) =>
 (f_X10_idleOf r_4 (fun (r_5 : Int32) =>
 J_3 r_5))))))))))) ∧
 (v1 = (-1 : Int32) → (f_X1_idleOfAll (0 : Int32) (0 : Int32) σ (fun (r_7 : Int32) =>
 Q r_7))))
def f_X10_index (σ : kk_St) (Q : Int32 → kk_St → Prop) : Prop :=
 (f_X7_fewest σ (fun (r_1 : Int32) (σ_2 : kk_St) =>
 Q r_1 σ_2))
def f_X10_isLikeKept (σ : kk_St) (Q : Int32 → Prop) : Prop :=
 (kk_lp1 (fun (rec_2 : Int32 → Prop) (v1_1 : Int32) =>
 (((σ.1 1 6) ≤ v1_1 → Q (1 : Int32)) ∧
 (¬ (σ.1 1 6) ≤ v1_1 → (vp_in v1_1 20 ∧
 (kk_j1 (fun (t_3 : Int32) => (vp_in v1_1 20 ∧
 (kk_j1 (fun (t_5 : Int32) => ((t_3 = t_5 → (kk_lp1 (fun (rec_8 : Int32 → Prop) (v2_7 : Int32) =>
 ((v1_1 ≤ v2_7 → rec_2 (v1_1 + (1 : Int32))) ∧
 (¬ v1_1 ≤ v2_7 → (vp_in v1_1 20 ∧
 (vp_in v2_7 20 ∧
 (kk_j1 (fun (t_9 : Int32) => (vp_in v1_1 20 ∧
 (vp_in v2_7 20 ∧
 (kk_j1 (fun (t_11 : Int32) => ((t_9 = t_11 → rec_8 (v2_7 + (1 : Int32))) ∧
 (¬ t_9 = t_11 → Q (0 : Int32))))
 (fun (J_12 : Int32 → Prop) => ((¬ (kk_rd σ 16 v1_1) = (kk_rd σ 16 v2_7) → J_12 (0 : Int32)) ∧
 ((kk_rd σ 16 v1_1) = (kk_rd σ 16 v2_7) → J_12 (1 : Int32))))))))
 (fun (J_10 : Int32 → Prop) => ((¬ (kk_rd σ 31 v1_1) = (kk_rd σ 31 v2_7) → J_10 (0 : Int32)) ∧
 ((kk_rd σ 31 v1_1) = (kk_rd σ 31 v2_7) → J_10 (1 : Int32)))))))))) (0 : Int32))) ∧
 (¬ t_3 = t_5 → Q (0 : Int32))))
 (fun (J_6 : Int32 → Prop) => ((¬ (kk_rd σ 16 v1_1) = (-1 : Int32) → J_6 (0 : Int32)) ∧
 ((kk_rd σ 16 v1_1) = (-1 : Int32) → J_6 (1 : Int32)))))))
 (fun (J_4 : Int32 → Prop) => ((¬ (kk_rd σ 31 v1_1) = (-1 : Int32) → J_4 (0 : Int32)) ∧
 ((kk_rd σ 31 v1_1) = (-1 : Int32) → J_4 (1 : Int32))))))))) (0 : Int32))
def f_X10_keep (σ : kk_St) (Q : Int32 → kk_St → Prop) : Prop :=
 (∀ σ_1 : kk_St, σ_1 = (kk_wrF σ 31 (va_cpy (σ.1 16) (σ.1 31) 0 0 (Int32.toNatClampNeg (20 : Int32)))) → (∀ σ_2 : kk_St, σ_2 = (kk_wr σ_1 0 12 (1 : Int32)) → Q (1 : Int32) σ_2))
def f_X9_isSeen (v1 : Int32) (σ : kk_St) (Q : Int32 → Prop) : Prop :=
 (vp_in (v1 >>> ((5 : Int32) &&& 31)) 128 ∧
 (kk_j1 (fun (t_1 : Int32) => ((t_1 = 0 ∨ t_1 = 1) ∧ Q t_1))
 (fun (J_2 : Int32 → Prop) => (((((kk_rd σ 28 (v1 >>> ((5 : Int32) &&& 31))) >>> ((v1 &&& (31 : Int32)) &&& 31)) &&& (1 : Int32)) = 0 → J_2 (0 : Int32)) ∧
 (¬ (((kk_rd σ 28 (v1 >>> ((5 : Int32) &&& 31))) >>> ((v1 &&& (31 : Int32)) &&& 31)) &&& (1 : Int32)) = 0 → J_2 (1 : Int32))))))
def f_X9_linesWith (v1 : Int32) (v2 : Int32) (σ : kk_St) (Q : Int32 → Prop) : Prop :=
 (∀ v3_1 : Int32, v3_1 = (v1 ^^^ (v2 * (1365 : Int32))) → Q ((((v3_1 ||| (v3_1 >>> ((1 : Int32) &&& 31))) ^^^ (-1 : Int32)) &&& (1365 : Int32)) &&& (((1 : Int32) <<< (((2 : Int32) * (σ.1 1 6)) &&& 31)) - (1 : Int32))))
def f_X9_mark (v1 : Int32) (σ : kk_St) (Q : kk_St → Prop) : Prop :=
 (f_X9_isSeen v1 σ (fun (r_1 : Int32) =>
 (kk_j1 (fun (σ_2 : kk_St) => Q σ_2)
 (fun (J_3 : kk_St → Prop) => ((¬ r_1 = 0 → J_3 σ) ∧
 (r_1 = 0 → (vp_in (v1 >>> ((5 : Int32) &&& 31)) 128 ∧
 (vp_in (v1 >>> ((5 : Int32) &&& 31)) 128 ∧
 (∀ σ_4 : kk_St, σ_4 = (kk_wr σ 28 (Int32.toNatClampNeg (v1 >>> ((5 : Int32) &&& 31))) ((kk_rd σ 28 (v1 >>> ((5 : Int32) &&& 31))) ||| ((1 : Int32) <<< ((v1 &&& (31 : Int32)) &&& 31)))) → (vp_in (v1 >>> ((5 : Int32) &&& 31)) 128 ∧
 (vp_in (v1 >>> ((5 : Int32) &&& 31)) 128 ∧
 (∀ σ_5 : kk_St, σ_5 = (kk_wr σ_4 30 (Int32.toNatClampNeg (v1 >>> ((5 : Int32) &&& 31))) ((kk_rd σ_4 30 (v1 >>> ((5 : Int32) &&& 31))) ||| ((1 : Int32) <<< ((v1 &&& (31 : Int32)) &&& 31)))) → J_3 σ_5))))))))))))
def f_X9_joinedIn (v1 : Int32) (v2 : Int32) (σ : kk_St) (Q : Int32 → Prop) : Prop :=
 (kk_j1 (fun (v3_1 : Int32) => Q v3_1)
 (fun (J_2 : Int32 → Prop) => (kk_lp3 (fun (rec_6 : Int32 → Int32 → Int32 → Prop) (v3_3 : Int32) (v4_4 : Int32) (v5_5 : Int32) =>
 (((6 : Int32) ≤ v5_5 → J_2 v3_3) ∧
 (¬ (6 : Int32) ≤ v5_5 → ((v4_4 = 0 → J_2 v3_3) ∧
 (¬ v4_4 = 0 → (f_J6_lowestOneBit_0f7a4 v4_4 (fun (r_7 : Int32) =>
 (f_J6_numberOfTrailingZeros_0f7a4 r_7 (fun (r_8 : Int32) =>
 (vp_in (r_8 / (2 : Int32)) 6 ∧
 (∀ v7_9 : Int32, v7_9 = (((kk_rd σ 27 (r_8 / (2 : Int32))) &&& v2) &&& (v3_3 ^^^ (-1 : Int32))) → (∀ v4_10 : Int32, v4_10 = ((v4_4 &&& (r_7 ^^^ (-1 : Int32))) ||| v7_9) → rec_6 (v3_3 ||| v7_9) v4_10 (v5_5 + (1 : Int32)))))))))))))) v1 v1 (0 : Int32))))
def f_X9_turnEach (v1 : Int32) (σ : kk_St) (Q : kk_St → Prop) : Prop :=
 (kk_lp2 (fun (rec_3 : Int32 → kk_St → Prop) (v2_1 : Int32) (σ_2 : kk_St) =>
 (((σ_2.1 10 5) ≤ v2_1 → Q σ_2) ∧
 (¬ (σ_2.1 10 5) ≤ v2_1 → (kk_lp2 (fun (rec_6 : Int32 → kk_St → Prop) (v3_4 : Int32) (σ_5 : kk_St) =>
 (((σ_5.1 10 5) ≤ v3_4 → rec_3 (v2_1 + (1 : Int32)) σ_5) ∧
 (¬ (σ_5.1 10 5) ≤ v3_4 → (f_X9_linesWith v1 v2_1 σ_5 (fun (r_7 : Int32) =>
 (f_X9_linesWith v1 v3_4 σ_5 (fun (r_8 : Int32) =>
 (kk_j1 (fun (σ_9 : kk_St) => rec_6 (v3_4 + (1 : Int32)) σ_9)
 (fun (J_10 : kk_St → Prop) => (kk_lp3 (fun (rec_14 : Int32 → Int32 → kk_St → Prop) (v5_11 : Int32) (v6_12 : Int32) (σ_13 : kk_St) =>
 (((6 : Int32) ≤ v6_12 → J_10 σ_13) ∧
 (¬ (6 : Int32) ≤ v6_12 → ((v5_11 = 0 → J_10 σ_13) ∧
 (¬ v5_11 = 0 → (f_J6_lowestOneBit_0f7a4 v5_11 (fun (r_15 : Int32) =>
 (f_X9_joinedIn r_15 (r_7 ||| r_8) σ_13 (fun (r_16 : Int32) =>
 (∀ v5_17 : Int32, v5_17 = (v5_11 &&& (r_16 ^^^ (-1 : Int32))) → (f_X9_mark (v1 ^^^ (r_16 * (v2_1 ^^^ v3_4))) σ_13 (fun (σ_18 : kk_St) =>
 rec_14 v5_17 (v6_12 + (1 : Int32)) σ_18)))))))))))) (r_7 ||| r_8) (0 : Int32) σ_5)))))))))) (v2_1 + (1 : Int32)) σ_2)))) (0 : Int32) σ)
def f_X9_advance (σ : kk_St) (Q : Int32 → kk_St → Prop) : Prop :=
 (∀ σ_1 : kk_St, σ_1 = (kk_wrF σ 29 (va_cpy (σ.1 30) (σ.1 29) 0 0 (Int32.toNatClampNeg (128 : Int32)))) → (f_J7_fill_53178 30 128 (0 : Int32) σ_1 (fun (σ_2 : kk_St) =>
 (kk_lp3 (fun (rec_6 : Int32 → Int32 → kk_St → Prop) (v1_3 : Int32) (v2_4 : Int32) (σ_5 : kk_St) =>
 (((128 : Int32) ≤ v2_4 → ((v1_3 = 0 ∨ v1_3 = 1) ∧ Q v1_3 σ_5)) ∧
 (¬ (128 : Int32) ≤ v2_4 → (kk_j2 (fun (v1_7 : Int32) (σ_8 : kk_St) => rec_6 v1_7 (v2_4 + (1 : Int32)) σ_8)
 (fun (J_9 : Int32 → kk_St → Prop) => (kk_lp3 (fun (rec_13 : Int32 → Int32 → kk_St → Prop) (v1_10 : Int32) (v3_11 : Int32) (σ_12 : kk_St) =>
 (((32 : Int32) ≤ v3_11 → J_9 v1_10 σ_12) ∧
 (¬ (32 : Int32) ≤ v3_11 → (vp_in v2_4 128 ∧
 (((kk_rd σ_12 29 v2_4) = 0 → J_9 v1_10 σ_12) ∧
 (¬ (kk_rd σ_12 29 v2_4) = 0 → (vp_in v2_4 128 ∧
 (kk_j2 (fun (v1_14 : Int32) (σ_15 : kk_St) => rec_13 v1_14 (v3_11 + (1 : Int32)) σ_15)
 (fun (J_16 : Int32 → kk_St → Prop) => (((((kk_rd σ_12 29 v2_4) >>> (v3_11 &&& 31)) &&& (1 : Int32)) = 0 → J_16 v1_10 σ_12) ∧
 (¬ (((kk_rd σ_12 29 v2_4) >>> (v3_11 &&& 31)) &&& (1 : Int32)) = 0 → (f_X9_turnEach ((v2_4 <<< ((5 : Int32) &&& 31)) ||| v3_11) σ_12 (fun (σ_17 : kk_St) =>
 J_16 (1 : Int32) σ_17))))))))))))) v1_3 (0 : Int32) σ_5)))))) (0 : Int32) (0 : Int32) σ_2))))
def f_X9_spreadKind (σ : kk_St) (Q : kk_St → Prop) : Prop :=
 (kk_lp2 (fun (rec_3 : Int32 → kk_St → Prop) (v1_1 : Int32) (σ_2 : kk_St) =>
 (((4096 : Int32) < v1_1 → Q σ_2) ∧
 (¬ (4096 : Int32) < v1_1 → (f_X9_advance σ_2 (fun (r_4 : Int32) (σ_5 : kk_St) =>
 ((¬ r_4 = 0 → rec_3 (v1_1 + (1 : Int32)) σ_5) ∧
 (r_4 = 0 → Q σ_5))))))) (0 : Int32) σ)
def f_X9_place : Nat → Int32 → Int32 → kk_St → (kk_St → Prop) → Prop
| 0, _, _, _, _ => False
| n + 1, v1, v2, σ, Q =>
 (kk_j0 ((f_X9_isSeen v2 σ (fun (r_2 : Int32) =>
 (kk_j1 (fun (σ_3 : kk_St) => Q σ_3)
 (fun (J_4 : kk_St → Prop) => ((¬ r_2 = 0 → J_4 σ) ∧
 (r_2 = 0 → (∀ σ_5 : kk_St, σ_5 = (kk_wr σ 10 6 ((σ.1 10 6) + (1 : Int32))) → (f_X9_mark v2 σ_5 (fun (σ_6 : kk_St) =>
 (f_X9_spreadKind σ_6 (fun (σ_7 : kk_St) =>
 J_4 σ_7))))))))))))
 (fun (J_1 : Prop) => (((σ.1 1 6) ≤ v1 → J_1) ∧
 (¬ (σ.1 1 6) ≤ v1 → ((v1 < (6 : Int32) → (∀ v3_9 : Int32, v3_9 = (((1 : Int32) <<< (((2 : Int32) * v1) &&& 31)) - (1 : Int32)) → (kk_lp2 (fun (rec_12 : Int32 → kk_St → Prop) (v4_10 : Int32) (σ_11 : kk_St) =>
 (((σ_11.1 10 5) ≤ v4_10 → Q σ_11) ∧
 (¬ (σ_11.1 10 5) ≤ v4_10 → (f_X9_linesWith v2 v4_10 σ_11 (fun (r_13 : Int32) =>
 (vp_in v1 6 ∧
 (kk_j1 (fun (σ_14 : kk_St) => rec_12 (v4_10 + (1 : Int32)) σ_14)
 (fun (J_15 : kk_St → Prop) => ((¬ ((r_13 &&& v3_9) &&& (kk_rd σ_11 27 v1)) = 0 → J_15 σ_11) ∧
 (((r_13 &&& v3_9) &&& (kk_rd σ_11 27 v1)) = 0 → (f_X9_place n (v1 + (1 : Int32)) (v2 ||| (v4_10 <<< (((2 : Int32) * v1) &&& 31))) σ_11 (fun (σ_16 : kk_St) =>
 J_15 σ_16)))))))))))) (0 : Int32) σ))) ∧
 (¬ v1 < (6 : Int32) → J_1))))))
def f_X9_spread (v0 : Int32) (Q : Int32 → Prop) : Prop :=
 (kk_lp2 (fun (rec_3 : Int32 → Int32 → Prop) (v1_1 : Int32) (v2_2 : Int32) =>
 (((6 : Int32) ≤ v2_2 → Q v1_1) ∧
 (¬ (6 : Int32) ≤ v2_2 → (∀ v1_4 : Int32, v1_4 = (v1_1 ||| (((v0 >>> (v2_2 &&& 31)) &&& (1 : Int32)) <<< (((2 : Int32) * v2_2) &&& 31))) → rec_3 v1_4 (v2_2 + (1 : Int32)))))) (0 : Int32) (0 : Int32))
def f_X9_prepare (v1 : Int32) (σ : kk_St) (Q : kk_St → Prop) : Prop :=
 (∀ σ_1 : kk_St, σ_1 = (kk_wr σ 10 5 v1) → (f_J7_fill_53178 28 128 (0 : Int32) σ_1 (fun (σ_2 : kk_St) =>
 (f_J7_fill_53178 30 128 (0 : Int32) σ_2 (fun (σ_3 : kk_St) =>
 (kk_j1 (fun (σ_4 : kk_St) => Q σ_4)
 (fun (J_5 : kk_St → Prop) => (kk_lp2 (fun (rec_8 : Int32 → kk_St → Prop) (v2_6 : Int32) (σ_7 : kk_St) =>
 (((σ_7.1 1 6) ≤ v2_6 → J_5 σ_7) ∧
 (¬ (σ_7.1 1 6) ≤ v2_6 → (((6 : Int32) ≤ v2_6 → J_5 σ_7) ∧
 (¬ (6 : Int32) ≤ v2_6 → (vp_in v2_6 20 ∧
 (f_X9_spread (kk_rd σ_7 13 v2_6) (fun (r_9 : Int32) =>
 (vp_in v2_6 6 ∧
 (∀ σ_10 : kk_St, σ_10 = (kk_wr σ_7 27 (Int32.toNatClampNeg v2_6) r_9) → rec_8 (v2_6 + (1 : Int32)) σ_10)))))))))) (0 : Int32) σ_3))))))))
def f_X9_countKinds (v1 : Int32) (σ : kk_St) (Q : Int32 → kk_St → Prop) : Prop :=
 (f_X9_prepare v1 σ (fun (σ_1 : kk_St) =>
 (∀ σ_2 : kk_St, σ_2 = (kk_wr σ_1 10 6 (0 : Int32)) → (f_X9_place 30 (0 : Int32) (0 : Int32) σ_2 (fun (σ_3 : kk_St) =>
 Q (σ_3.1 10 6) σ_3)))))
def f_X10_kinds (v1 : Int32) (σ : kk_St) (Q : Int32 → kk_St → Prop) : Prop :=
 (kk_j0 (Q (-1 : Int32) σ)
 (fun (J_1 : Prop) => ((v1 < (1 : Int32) → J_1) ∧
 (¬ v1 < (1 : Int32) → ((v1 ≤ (4 : Int32) → (kk_j2 (fun (t_2 : Int32) (σ_3 : kk_St) => Q t_2 σ_3)
 (fun (J_4 : Int32 → kk_St → Prop) => (((σ.1 1 6) ≤ (6 : Int32) → (f_X9_countKinds v1 σ (fun (r_5 : Int32) (σ_6 : kk_St) =>
 J_4 r_5 σ_6))) ∧
 (¬ (σ.1 1 6) ≤ (6 : Int32) → J_4 (-2 : Int32) σ))))) ∧
 (¬ v1 ≤ (4 : Int32) → J_1))))))
def f_X6_add (v1 : Int32) (v2 : Int32) (σ : kk_St) (Q : kk_St → Prop) : Prop :=
 (vp_in v1 9 ∧
 (vp_in v2 9 ∧
 (∀ v4_1 : Int32, v4_1 = ((kk_rd σ 14 v1) ||| (kk_rd σ 14 v2)) → (kk_lp2 (fun (rec_4 : Int32 → kk_St → Prop) (v5_2 : Int32) (σ_3 : kk_St) =>
 (((σ.1 1 6) ≤ v5_2 → (vp_in (σ.1 1 6) 20 ∧
 (∀ σ_5 : kk_St, σ_5 = (kk_wr σ_3 11 (Int32.toNatClampNeg (σ.1 1 6)) (kk_min v1 v2)) → (vp_in (σ.1 1 6) 20 ∧
 (∀ σ_6 : kk_St, σ_6 = (kk_wr σ_5 12 (Int32.toNatClampNeg (σ.1 1 6)) (kk_max v1 v2)) → (vp_in (σ.1 1 6) 20 ∧
 (∀ σ_7 : kk_St, σ_7 = (kk_wr σ_6 13 (Int32.toNatClampNeg (σ.1 1 6)) v4_1) → (vp_in v1 9 ∧
 (vp_in v1 9 ∧
 (∀ σ_8 : kk_St, σ_8 = (kk_wr σ_7 14 (Int32.toNatClampNeg v1) ((kk_rd σ_7 14 v1) ||| ((1 : Int32) <<< ((σ.1 1 6) &&& 31)))) → (vp_in v2 9 ∧
 (vp_in v2 9 ∧
 (∀ σ_9 : kk_St, σ_9 = (kk_wr σ_8 14 (Int32.toNatClampNeg v2) ((kk_rd σ_8 14 v2) ||| ((1 : Int32) <<< ((σ.1 1 6) &&& 31)))) → (vp_in v1 9 ∧
 (vp_in v1 9 ∧
 (∀ σ_10 : kk_St, σ_10 = (kk_wr σ_9 15 (Int32.toNatClampNeg v1) ((kk_rd σ_9 15 v1) ||| ((1 : Int32) <<< (v2 &&& 31)))) → (vp_in v2 9 ∧
 (vp_in v2 9 ∧
 (∀ σ_11 : kk_St, σ_11 = (kk_wr σ_10 15 (Int32.toNatClampNeg v2) ((kk_rd σ_10 15 v2) ||| ((1 : Int32) <<< (v1 &&& 31)))) → (∀ σ_12 : kk_St, σ_12 = (kk_wr σ_11 1 6 ((σ_11.1 1 6) + (1 : Int32))) → (f_X6_allLines σ_12 (fun (r_13 : Int32) =>
 (f_X6_mostAtOnePost r_13 σ_12 (fun (r_14 : Int32) =>
 (∀ σ_15 : kk_St, σ_15 = (kk_wr σ_12 1 7 r_14) → Q σ_15))))))))))))))))))))))))) ∧
 (¬ (σ.1 1 6) ≤ v5_2 → (kk_j1 (fun (σ_16 : kk_St) => rec_4 (v5_2 + (1 : Int32)) σ_16)
 (fun (J_17 : kk_St → Prop) => ((((v4_1 >>> (v5_2 &&& 31)) &&& (1 : Int32)) = 0 → J_17 σ_3) ∧
 (¬ ((v4_1 >>> (v5_2 &&& 31)) &&& (1 : Int32)) = 0 → (vp_in v5_2 20 ∧
 (vp_in v5_2 20 ∧
 (∀ σ_18 : kk_St, σ_18 = (kk_wr σ_3 13 (Int32.toNatClampNeg v5_2) ((kk_rd σ_3 13 v5_2) ||| ((1 : Int32) <<< ((σ.1 1 6) &&& 31)))) → J_17 σ_18)))))))))) (0 : Int32) σ))))
def f_X10_line (v1 : Int32) (v2 : Int32) (σ : kk_St) (Q : Int32 → kk_St → Prop) : Prop :=
 (f_X6_isPost v1 σ (fun (r_1 : Int32) =>
 (kk_j0 (Q (-1 : Int32) σ)
 (fun (J_2 : Prop) => ((r_1 = 0 → J_2) ∧
 (¬ r_1 = 0 → (f_X6_isPost v2 σ (fun (r_3 : Int32) =>
 ((r_3 = 0 → J_2) ∧
 (¬ r_3 = 0 → ((¬ v1 = v2 → (kk_j0 (Q (-1 : Int32) σ)
 (fun (J_4 : Prop) => (((20 : Int32) ≤ (σ.1 1 6) → J_4) ∧
 (¬ (20 : Int32) ≤ (σ.1 1 6) → (f_X6_lineBetween v1 v2 σ (fun (r_5 : Int32) =>
 ((r_5 = (-1 : Int32) → (f_X6_add v1 v2 σ (fun (σ_6 : kk_St) =>
 (vp_in (σ.1 1 6) 20 ∧
 (∀ σ_7 : kk_St, σ_7 = (kk_wr σ_6 32 (Int32.toNatClampNeg (σ.1 1 6)) (511 : Int32)) → (f_X7_forget σ_7 (fun (σ_8 : kk_St) =>
 Q (σ.1 1 6) σ_8))))))) ∧
 (¬ r_5 = (-1 : Int32) → J_4))))))))) ∧
 (v1 = v2 → J_2))))))))))))
def f_X10_list (v1 : Int32) (v2 : Int32) (σ : kk_St) (Q : Int32 → kk_St → Prop) : Prop :=
 (f_X6_isLine v1 σ (fun (r_1 : Int32) =>
 (kk_j0 (Q (-1 : Int32) σ)
 (fun (J_2 : Prop) => ((r_1 = 0 → J_2) ∧
 (¬ r_1 = 0 → ((v2 < 0 → J_2) ∧
 (¬ v2 < 0 → ((v2 ≤ (511 : Int32) → (vp_in v1 20 ∧
 (vp_in v1 20 ∧
 (∀ σ_3 : kk_St, σ_3 = (kk_wr σ 32 (Int32.toNatClampNeg v1) v2) → (f_X7_forgetAnswer σ_3 (fun (σ_4 : kk_St) =>
 Q (kk_rd σ 32 v1) σ_4)))))) ∧
 (¬ v2 ≤ (511 : Int32) → J_2))))))))))
def f_X7_openListed (a1 : Nat) (n1 : Nat) (σ : kk_St) (Q : kk_St → Prop) : Prop :=
 (kk_lp2 (fun (rec_3 : Int32 → kk_St → Prop) (v2_1 : Int32) (σ_2 : kk_St) =>
 (((9 : Int32) ≤ v2_1 → Q σ_2) ∧
 (¬ (9 : Int32) ≤ v2_1 → (vp_in v2_1 9 ∧
 (∀ σ_4 : kk_St, σ_4 = (kk_wr σ_2 20 (Int32.toNatClampNeg v2_1) (0 : Int32)) → (kk_lp2 (fun (rec_7 : Int32 → kk_St → Prop) (v3_5 : Int32) (σ_6 : kk_St) =>
 (((σ_6.1 1 6) ≤ v3_5 → rec_3 (v2_1 + (1 : Int32)) σ_6) ∧
 (¬ (σ_6.1 1 6) ≤ v3_5 → (vp_in v2_1 9 ∧
 (vp_in v3_5 n1 ∧
 (vp_in v2_1 9 ∧
 (∀ σ_8 : kk_St, σ_8 = (kk_wr σ_6 20 (Int32.toNatClampNeg v2_1) ((kk_rd σ_6 20 v2_1) ||| ((((kk_rd σ_6 a1 v3_5) >>> (v2_1 &&& 31)) &&& (1 : Int32)) <<< (v3_5 &&& 31)))) → rec_7 (v3_5 + (1 : Int32)) σ_8))))))) (0 : Int32) σ_4)))))) (0 : Int32) σ)
def f_X7_findListed (a1 : Nat) (n1 : Nat) (σ : kk_St) (Q : Int32 → kk_St → Prop) : Prop :=
 (kk_j1 (fun (σ_1 : kk_St) => (((σ_1.1 7 5) = 0 ∨ (σ_1.1 7 5) = 1) ∧ Q (σ_1.1 7 5) σ_1))
 (fun (J_2 : kk_St → Prop) => (((σ.1 7 4) = (10 : Int32) → J_2 σ) ∧
 (¬ (σ.1 7 4) = (10 : Int32) → (∀ σ_3 : kk_St, σ_3 = (kk_wr σ 7 4 (10 : Int32)) → (f_X7_openListed a1 n1 σ_3 (fun (σ_4 : kk_St) =>
 (f_X7_findLeast σ_4 (fun (r_5 : Int32) (σ_6 : kk_St) =>
 ((r_5 = 0 ∨ r_5 = 1) ∧ (∀ σ_7 : kk_St, σ_7 = (kk_wr σ_6 7 5 r_5) → J_2 σ_7)))))))))))
def f_X10_listed (v1 : Int32) (σ : kk_St) (Q : Int32 → kk_St → Prop) : Prop :=
 (f_X6_isLine v1 σ (fun (r_1 : Int32) =>
 ((¬ r_1 = 0 → (((σ.1 1 6) ≤ (9 : Int32) → (f_X7_findListed 32 20 σ (fun (r_2 : Int32) (σ_3 : kk_St) =>
 (kk_j1 (fun (t_4 : Int32) => Q t_4 σ_3)
 (fun (J_5 : Int32 → Prop) => ((r_2 = 0 → J_5 (-2 : Int32)) ∧
 (¬ r_2 = 0 → (vp_in v1 20 ∧
 J_5 (kk_rd σ_3 22 v1))))))))) ∧
 (¬ (σ.1 1 6) ≤ (9 : Int32) → Q (-3 : Int32) σ))) ∧
 (r_1 = 0 → Q (-1 : Int32) σ))))
def f_X2_longestChain (v1 : Int32) (v2 : Int32) (σ : kk_St) (Q : Int32 → Prop) : Prop :=
 (vp_in v1 9 ∧
 (vp_in v2 9 ∧
 (∀ v3_1 : Int32, v3_1 = ((kk_rd σ 17 v1) ||| (kk_rd σ 17 v2)) → (kk_lp3 (fun (rec_5 : Int32 → Int32 → Int32 → Prop) (v4_2 : Int32) (v5_3 : Int32) (v6_4 : Int32) =>
 (((σ.1 1 6) ≤ v6_4 → Q v5_3) ∧
 (¬ (σ.1 1 6) ≤ v6_4 → (kk_j2 (fun (v4_6 : Int32) (v5_7 : Int32) => rec_5 v4_6 v5_7 (v6_4 + (1 : Int32)))
 (fun (J_8 : Int32 → Int32 → Prop) => ((((v4_2 >>> (v6_4 &&& 31)) &&& (1 : Int32)) = 0 → J_8 v4_2 v5_3) ∧
 (¬ ((v4_2 >>> (v6_4 &&& 31)) &&& (1 : Int32)) = 0 → (f_X6_joined ((1 : Int32) <<< (v6_4 &&& 31)) v3_1 σ (fun (r_9 : Int32) =>
 (∀ v4_10 : Int32, v4_10 = (v4_2 &&& (r_9 ^^^ (-1 : Int32))) → (f_J6_bitCount_0f7a4 r_9 (fun (r_11 : Int32) =>
 (f_J6_bitCount_0f7a4 v5_3 (fun (r_12 : Int32) =>
 ((r_11 ≤ r_12 → J_8 v4_10 v5_3) ∧
 (¬ r_11 ≤ r_12 → J_8 v4_10 r_9)))))))))))))))) v3_1 (0 : Int32) (0 : Int32)))))
def f_X10_longest (v1 : Int32) (σ : kk_St) (Q : Int32 → Prop) : Prop :=
 (kk_j0 (Q (-1 : Int32))
 (fun (J_1 : Prop) => ((v1 < 0 → J_1) ∧
 (¬ v1 < 0 → ((v1 ≤ (3 : Int32) → (kk_lp3 (fun (rec_5 : Int32 → Int32 → Int32 → Prop) (v2_2 : Int32) (v3_3 : Int32) (v4_4 : Int32) =>
 (f_X3_colours σ (fun (r_6 : Int32) =>
 ((r_6 ≤ v4_4 → ((¬ v2_2 = 0 → ((v1 = nI 0 → (f_J6_bitCount_0f7a4 v2_2 (fun (r_7 : Int32) =>
 Q r_7))) ∧
 (v1 = nI 1 → Q (v3_3 / (9 : Int32))) ∧
 (v1 = nI 2 → Q (v3_3 - v3_3 / (9 : Int32) * (9 : Int32))) ∧
 (v1.toInt < 0 ∨ (3 : Int) ≤ v1.toInt → (f_J6_numberOfTrailingZeros_0f7a4 v2_2 (fun (r_8 : Int32) =>
 Q r_8))))) ∧
 (v2_2 = 0 → Q (-2 : Int32)))) ∧
 (¬ r_6 ≤ v4_4 → (kk_lp3 (fun (rec_13 : Int32 → Int32 → Int32 → Prop) (v2_10 : Int32) (v3_11 : Int32) (v5_12 : Int32) =>
 (f_X3_colours σ (fun (r_14 : Int32) =>
 ((r_14 ≤ v5_12 → rec_5 v2_10 v3_11 (v4_4 + (1 : Int32))) ∧
 (¬ r_14 ≤ v5_12 → (f_X2_longestChain v4_4 v5_12 σ (fun (r_15 : Int32) =>
 (f_J6_bitCount_0f7a4 r_15 (fun (r_16 : Int32) =>
 (f_J6_bitCount_0f7a4 v2_10 (fun (r_17 : Int32) =>
 (kk_j2 (fun (v2_18 : Int32) (v3_19 : Int32) => rec_13 v2_18 v3_19 (v5_12 + (1 : Int32)))
 (fun (J_20 : Int32 → Int32 → Prop) => ((r_16 ≤ r_17 → J_20 v2_10 v3_11) ∧
 (¬ r_16 ≤ r_17 → (∀ v3_21 : Int32, v3_21 = ((v4_4 * (9 : Int32)) + v5_12) → J_20 r_15 v3_21)))))))))))))))) v2_2 v3_3 (v4_4 + (1 : Int32)))))))) (0 : Int32) (0 : Int32) (0 : Int32))) ∧
 (¬ v1 ≤ (3 : Int32) → J_1))))))
def f_X10_of (v1 : Int32) (v2 : Int32) (σ : kk_St) (Q : Int32 → Prop) : Prop :=
 (f_X6_isLine v1 σ (fun (r_1 : Int32) =>
 ((¬ r_1 = 0 → ((v2 = nI 0 → (vp_in v1 20 ∧
 Q (kk_rd σ 11 v1))) ∧
 (v2 = nI 1 → (vp_in v1 20 ∧
 Q (kk_rd σ 12 v1))) ∧
 (v2 = nI 2 → (vp_in v1 20 ∧
 (kk_j1 (fun (t_2 : Int32) => Q t_2)
 (fun (J_3 : Int32 → Prop) => ((¬ (kk_rd σ 16 v1) = (-1 : Int32) → (vp_in v1 20 ∧
 J_3 (kk_rd σ 16 v1))) ∧
 ((kk_rd σ 16 v1) = (-1 : Int32) → J_3 (-2 : Int32))))))) ∧
 (v2 = nI 3 → (vp_in v1 20 ∧
 Q (kk_rd σ 13 v1))) ∧
 (v2.toInt < 0 ∨ (4 : Int) ≤ v2.toInt → Q (-1 : Int32)))) ∧
 (r_1 = 0 → Q (-1 : Int32)))))
def f_X10_overfull (v1 : Int32) (σ : kk_St) (Q : Int32 → Prop) : Prop :=
 (kk_j0 (Q (-1 : Int32))
 (fun (J_1 : Prop) => ((v1 < 0 → J_1) ∧
 (¬ v1 < 0 → ((v1 ≤ (2 : Int32) → (f_X6_allLines σ (fun (r_2 : Int32) =>
 (f_X6_crowdedSet r_2 (σ.1 1 7) σ (fun (r_3 : Int32) =>
 ((¬ r_3 = 0 → ((¬ v1 = 0 → (kk_j1 (fun (t_4 : Int32) => Q t_4)
 (fun (J_5 : Int32 → Prop) => ((¬ v1 = (1 : Int32) → (f_J6_bitCount_0f7a4 r_3 (fun (r_6 : Int32) =>
 J_5 ((σ.1 1 7) * (r_6 / (2 : Int32)))))) ∧
 (v1 = (1 : Int32) → (f_X6_allLines σ (fun (r_7 : Int32) =>
 (f_X6_linesWithin r_3 r_7 σ (fun (r_8 : Int32) =>
 J_5 r_8))))))))) ∧
 (v1 = 0 → Q r_3))) ∧
 (r_3 = 0 → Q (-2 : Int32)))))))) ∧
 (¬ v1 ≤ (2 : Int32) → J_1))))))
def f_X10_paint (v1 : Int32) (v2 : Int32) (σ : kk_St) (Q : Int32 → kk_St → Prop) : Prop :=
 (f_X6_isLine v1 σ (fun (r_1 : Int32) =>
 (kk_j0 (Q (0 : Int32) σ)
 (fun (J_2 : Prop) => ((r_1 = 0 → J_2) ∧
 (¬ r_1 = 0 → (f_X3_isColour v2 σ (fun (r_3 : Int32) =>
 ((r_3 = 0 → J_2) ∧
 (¬ r_3 = 0 → (f_X3_freeAtBoth v1 σ (fun (r_4 : Int32) =>
 ((¬ ((r_4 >>> (v2 &&& 31)) &&& (1 : Int32)) = 0 → (f_X3_give v1 v2 σ (fun (σ_5 : kk_St) =>
 Q (1 : Int32) σ_5))) ∧
 (((r_4 >>> (v2 &&& 31)) &&& (1 : Int32)) = 0 → J_2))))))))))))))
def f_X3_giveBelowDegree (v1 : Int32) (σ : kk_St) (Q : kk_St → Prop) : Prop :=
 (f_X3_freeAtBoth v1 σ (fun (r_1 : Int32) =>
 (∀ v2_2 : Int32, v2_2 = (r_1 &&& (((1 : Int32) <<< ((σ.1 1 7) &&& 31)) - (1 : Int32))) → ((v2_2 = 0 → (vp_in v1 20 ∧
 (f_X3_leastFreeAt (kk_rd σ 11 v1) σ (fun (r_3 : Int32) =>
 (vp_in v1 20 ∧
 (f_X3_leastFreeAt (kk_rd σ 12 v1) σ (fun (r_4 : Int32) =>
 (vp_in v1 20 ∧
 (f_X3_chainOf (kk_rd σ 12 v1) r_3 r_4 σ (fun (r_5 : Int32) =>
 (f_X3_flip r_5 r_3 r_4 σ (fun (σ_6 : kk_St) =>
 (f_X3_give v1 r_3 σ_6 (fun (σ_7 : kk_St) =>
 Q σ_7)))))))))))))) ∧
 (¬ v2_2 = 0 → (f_J6_numberOfTrailingZeros_0f7a4 v2_2 (fun (r_8 : Int32) =>
 (f_X3_give v1 r_8 σ (fun (σ_9 : kk_St) =>
 Q σ_9)))))))))
def f_X6_neighbours (v1 : Int32) (σ : kk_St) (Q : Int32 → Prop) : Prop :=
 (kk_lp2 (fun (rec_3 : Int32 → Int32 → Prop) (v2_1 : Int32) (v3_2 : Int32) =>
 (((σ.1 1 5) ≤ v3_2 → Q v2_1) ∧
 (¬ (σ.1 1 5) ≤ v3_2 → (kk_j1 (fun (v2_4 : Int32) => rec_3 v2_4 (v3_2 + (1 : Int32)))
 (fun (J_5 : Int32 → Prop) => ((((v1 >>> (v3_2 &&& 31)) &&& (1 : Int32)) = 0 → J_5 v2_1) ∧
 (¬ ((v1 >>> (v3_2 &&& 31)) &&& (1 : Int32)) = 0 → (vp_in v3_2 9 ∧
 (∀ v2_6 : Int32, v2_6 = (v2_1 ||| (kk_rd σ 15 v3_2)) → J_5 v2_6))))))))) (0 : Int32) (0 : Int32))
def f_X6_onePart (σ : kk_St) (Q : Int32 → Prop) : Prop :=
 (kk_lp3 (fun (rec_4 : Int32 → Int32 → Int32 → Prop) (v1_1 : Int32) (v2_2 : Int32) (v3_3 : Int32) =>
 (((σ.1 1 5) ≤ v3_3 → Q v2_2) ∧
 (¬ (σ.1 1 5) ≤ v3_3 → (kk_j2 (fun (v1_5 : Int32) (v2_6 : Int32) => rec_4 v1_5 v2_6 (v3_3 + (1 : Int32)))
 (fun (J_7 : Int32 → Int32 → Prop) => ((¬ ((v1_1 >>> (v3_3 &&& 31)) &&& (1 : Int32)) = 0 → J_7 v1_1 v2_2) ∧
 (((v1_1 >>> (v3_3 &&& 31)) &&& (1 : Int32)) = 0 → (∀ v4_8 : Int32, v4_8 = ((1 : Int32) <<< (v3_3 &&& 31)) → (kk_lp3 (fun (rec_12 : Int32 → Int32 → Int32 → Prop) (v4_9 : Int32) (v5_10 : Int32) (v6_11 : Int32) =>
 (((σ.1 1 5) ≤ v6_11 → (((v4_9 &&& v5_10) = 0 → (∀ v1_13 : Int32, v1_13 = (v1_1 ||| (v4_9 ||| v5_10)) → J_7 v1_13 (v2_2 ||| v4_9))) ∧
 (¬ (v4_9 &&& v5_10) = 0 → Q (0 : Int32)))) ∧
 (¬ (σ.1 1 5) ≤ v6_11 → (f_X6_neighbours v4_9 σ (fun (r_15 : Int32) =>
 (f_X6_neighbours (v5_10 ||| r_15) σ (fun (r_16 : Int32) =>
 rec_12 (v4_9 ||| r_16) (v5_10 ||| r_15) (v6_11 + (1 : Int32))))))))) v4_8 (0 : Int32) (0 : Int32)))))))))) (0 : Int32) (0 : Int32) (0 : Int32))
def f_X10_pair (σ : kk_St) (Q : Int32 → kk_St → Prop) : Prop :=
 (f_X6_onePart σ (fun (r_1 : Int32) =>
 ((¬ r_1 = 0 → (f_X3_clear σ (fun (σ_2 : kk_St) =>
 (kk_lp2 (fun (rec_5 : Int32 → kk_St → Prop) (v1_3 : Int32) (σ_4 : kk_St) =>
 (((σ_4.1 1 6) ≤ v1_3 → Q (σ_4.1 1 6) σ_4) ∧
 (¬ (σ_4.1 1 6) ≤ v1_3 → (f_X3_giveBelowDegree v1_3 σ_4 (fun (σ_6 : kk_St) =>
 rec_5 (v1_3 + (1 : Int32)) σ_6))))) (0 : Int32) σ_2)))) ∧
 (r_1 = 0 → Q (-2 : Int32) σ))))
def f_X10_post (v1 : Int32) (v2 : Int32) (σ : kk_St) (Q : Int32 → Prop) : Prop :=
 (f_X6_isPost v1 σ (fun (r_1 : Int32) =>
 ((¬ r_1 = 0 → (f_X3_coloursAt v1 σ (fun (r_2 : Int32) =>
 ((v2 = nI 0 → (vp_in v1 9 ∧
 (f_J6_bitCount_0f7a4 (kk_rd σ 14 v1) (fun (r_3 : Int32) =>
 Q r_3)))) ∧
 (v2 = nI 1 → Q r_2) ∧
 (v2 = nI 2 → (f_X3_leastFreeAt v1 σ (fun (r_4 : Int32) =>
 Q r_4))) ∧
 (v2 = nI 3 → (kk_j1 (fun (t_5 : Int32) => Q t_5)
 (fun (J_6 : Int32 → Prop) => ((¬ r_2 = 0 → (f_X10_greatestBit r_2 (fun (r_7 : Int32) =>
 (f_X3_lineWith v1 r_7 σ (fun (r_8 : Int32) =>
 J_6 r_8))))) ∧
 (r_2 = 0 → J_6 (-1 : Int32)))))) ∧
 (v2.toInt < 0 ∨ (4 : Int) ≤ v2.toInt → Q (-1 : Int32)))))) ∧
 (r_1 = 0 → Q (-1 : Int32)))))
def f_X6_leastPostAbove (v1 : Int32) (σ : kk_St) (Q : Int32 → Prop) : Prop :=
 (kk_lp1 (fun (rec_2 : Int32 → Prop) (v2_1 : Int32) =>
 (((σ.1 1 5) ≤ v2_1 → Q (-1 : Int32)) ∧
 (¬ (σ.1 1 5) ≤ v2_1 → (vp_in v2_1 9 ∧
 (f_J6_bitCount_0f7a4 (kk_rd σ 14 v2_1) (fun (r_3 : Int32) =>
 ((r_3 ≤ v1 → rec_2 (v2_1 + (1 : Int32))) ∧
 (¬ r_3 ≤ v1 → Q v2_1)))))))) (0 : Int32))
def f_X10_refused (v1 : Int32) (v2 : Int32) (σ : kk_St) (Q : Int32 → kk_St → Prop) : Prop :=
 (f_X10_isFew v1 (fun (r_1 : Int32) =>
 (kk_j0 (Q (-1 : Int32) σ)
 (fun (J_2 : Prop) => ((r_1 = 0 → J_2) ∧
 (¬ r_1 = 0 → ((v2 < 0 → J_2) ∧
 (¬ v2 < 0 → ((v2 ≤ (1 : Int32) → (((σ.1 1 7) ≤ v1 → (f_X6_allLines σ (fun (r_3 : Int32) =>
 (f_X6_crowdedSet r_3 v1 σ (fun (r_4 : Int32) =>
 ((r_4 = 0 → (kk_j2 (fun (t_5 : Int32) (σ_6 : kk_St) => Q t_5 σ_6)
 (fun (J_7 : Int32 → kk_St → Prop) => (kk_j1 (fun (σ_8 : kk_St) => J_7 (0 : Int32) σ_8)
 (fun (J_9 : kk_St → Prop) => ((¬ v2 = 0 → J_9 σ) ∧
 (v2 = 0 → (f_X7_fewest σ (fun (r_10 : Int32) (σ_11 : kk_St) =>
 ((r_10 ≤ v1 → J_9 σ_11) ∧
 (¬ r_10 ≤ v1 → J_7 (3 : Int32) σ_11))))))))))) ∧
 (¬ r_4 = 0 → (kk_j1 (fun (t_14 : Int32) => Q t_14 σ)
 (fun (J_15 : Int32 → Prop) => ((¬ v2 = 0 → J_15 r_4) ∧
 (v2 = 0 → J_15 (2 : Int32)))))))))))) ∧
 (¬ (σ.1 1 7) ≤ v1 → (kk_j1 (fun (t_18 : Int32) => Q t_18 σ)
 (fun (J_19 : Int32 → Prop) => ((¬ v2 = 0 → (f_X6_leastPostAbove v1 σ (fun (r_20 : Int32) =>
 J_19 r_20))) ∧
 (v2 = 0 → J_19 (1 : Int32)))))))) ∧
 (¬ v2 ≤ (1 : Int32) → J_2))))))))))
def f_X10_sets (v1 : Int32) (σ : kk_St) (Q : Int32 → kk_St → Prop) : Prop :=
 (kk_j0 (Q (-1 : Int32) σ)
 (fun (J_1 : Prop) => ((v1 < 0 → J_1) ∧
 (¬ v1 < 0 → ((v1 ≤ (4 : Int32) → (f_X0_gatherAll σ (fun (σ_2 : kk_St) =>
 (vp_in v1 5 ∧
 Q (kk_rd σ_2 23 v1) σ_2)))) ∧
 (¬ v1 ≤ (4 : Int32) → J_1))))))
def f_X6_leastOddRound (σ : kk_St) (Q : Int32 → Prop) : Prop :=
 (kk_lp2 (fun (rec_3 : Int32 → Int32 → Prop) (v1_1 : Int32) (v2_2 : Int32) =>
 (((σ.1 1 5) ≤ v2_2 → Q v1_1) ∧
 (¬ (σ.1 1 5) ≤ v2_2 → (∀ v3_4 : Int32, v3_4 = ((1 : Int32) <<< (v2_2 &&& 31)) → (kk_lp3 (fun (rec_8 : Int32 → Int32 → Int32 → Prop) (v1_5 : Int32) (v3_6 : Int32) (v4_7 : Int32) =>
 (((σ.1 1 5) < v4_7 → rec_3 v1_5 (v2_2 + (1 : Int32))) ∧
 (¬ (σ.1 1 5) < v4_7 → (f_X6_neighbours v3_6 σ (fun (r_9 : Int32) =>
 (kk_j1 (fun (t_10 : Int32) => (kk_j1 (fun (v1_12 : Int32) => rec_8 v1_12 r_9 (v4_7 + (1 : Int32)))
 (fun (J_13 : Int32 → Prop) => ((t_10 = 0 → J_13 v1_5) ∧
 (¬ t_10 = 0 → (kk_j0 (J_13 v4_7)
 (fun (J_14 : Prop) => ((v1_5 = 0 → J_14) ∧
 (¬ v1_5 = 0 → ((v1_5 ≤ v4_7 → J_13 v1_5) ∧
 (¬ v1_5 ≤ v4_7 → J_14)))))))))))
 (fun (J_11 : Int32 → Prop) => (kk_j0 (J_11 (0 : Int32))
 (fun (J_18 : Prop) => ((¬ (v4_7 - v4_7 / (2 : Int32) * (2 : Int32)) = (1 : Int32) → J_18) ∧
 ((v4_7 - v4_7 / (2 : Int32) * (2 : Int32)) = (1 : Int32) → ((((r_9 >>> (v2_2 &&& 31)) &&& (1 : Int32)) = 0 → J_18) ∧
 (¬ ((r_9 >>> (v2_2 &&& 31)) &&& (1 : Int32)) = 0 → J_11 (1 : Int32)))))))))))))) v1_1 v3_4 (1 : Int32)))))) (0 : Int32) (0 : Int32))
def f_X10_sides (v1 : Int32) (σ : kk_St) (Q : Int32 → Prop) : Prop :=
 (f_X6_onePart σ (fun (r_1 : Int32) =>
 ((v1 = nI 0 → (kk_j1 (fun (t_2 : Int32) => Q t_2)
 (fun (J_3 : Int32 → Prop) => ((r_1 = 0 → J_3 (0 : Int32)) ∧
 (¬ r_1 = 0 → J_3 (1 : Int32)))))) ∧
 (v1 = nI 1 → (kk_j1 (fun (t_5 : Int32) => Q t_5)
 (fun (J_6 : Int32 → Prop) => ((r_1 = 0 → J_6 (-2 : Int32)) ∧
 (¬ r_1 = 0 → J_6 r_1))))) ∧
 (v1 = nI 2 → (f_X6_leastOddRound σ (fun (r_8 : Int32) =>
 Q r_8))) ∧
 (v1.toInt < 0 ∨ (3 : Int) ≤ v1.toInt → Q (-1 : Int32)))))
def f_X10_swap (v1 : Int32) (v2 : Int32) (σ : kk_St) (Q : Int32 → kk_St → Prop) : Prop :=
 (f_X3_areUnlike v1 v2 σ (fun (r_1 : Int32) =>
 ((¬ r_1 = 0 → (vp_in v1 9 ∧
 (vp_in v2 9 ∧
 (∀ v3_2 : Int32, v3_2 = ((kk_rd σ 17 v1) ||| (kk_rd σ 17 v2)) → (f_X3_flip v3_2 v1 v2 σ (fun (σ_3 : kk_St) =>
 (f_J6_bitCount_0f7a4 v3_2 (fun (r_4 : Int32) =>
 Q r_4 σ_3)))))))) ∧
 (r_1 = 0 → Q (-1 : Int32) σ))))
def f_X10_take (v1 : Int32) (σ : kk_St) (Q : Int32 → kk_St → Prop) : Prop :=
 (kk_j1 (fun (σ_1 : kk_St) => Q (0 : Int32) σ_1)
 (fun (J_2 : kk_St → Prop) => ((v1 < 0 → J_2 σ) ∧
 (¬ v1 < 0 → (f_X3_colours σ (fun (r_3 : Int32) =>
 ((r_3 < v1 → J_2 σ) ∧
 (¬ r_3 < v1 → (f_X7_findFirst v1 σ (fun (r_4 : Int32) (σ_5 : kk_St) =>
 ((¬ r_4 = 0 → (f_X3_clear σ_5 (fun (σ_6 : kk_St) =>
 (kk_lp2 (fun (rec_9 : Int32 → kk_St → Prop) (v2_7 : Int32) (σ_8 : kk_St) =>
 (((σ_8.1 1 6) ≤ v2_7 → Q (1 : Int32) σ_8) ∧
 (¬ (σ_8.1 1 6) ≤ v2_7 → (vp_in v2_7 20 ∧
 (f_X3_give v2_7 (kk_rd σ_8 22 v2_7) σ_8 (fun (σ_10 : kk_St) =>
 rec_9 (v2_7 + (1 : Int32)) σ_10)))))) (0 : Int32) σ_6)))) ∧
 (r_4 = 0 → J_2 σ_5))))))))))))
def f_X10_turn (v1 : Int32) (v2 : Int32) (v3 : Int32) (σ : kk_St) (Q : Int32 → kk_St → Prop) : Prop :=
 (f_X6_isPost v1 σ (fun (r_1 : Int32) =>
 (kk_j0 (Q (-1 : Int32) σ)
 (fun (J_2 : Prop) => ((r_1 = 0 → J_2) ∧
 (¬ r_1 = 0 → (f_X3_areUnlike v2 v3 σ (fun (r_3 : Int32) =>
 ((¬ r_3 = 0 → (f_X3_chainOf v1 v2 v3 σ (fun (r_4 : Int32) =>
 (f_X3_flip r_4 v2 v3 σ (fun (σ_5 : kk_St) =>
 (f_J6_bitCount_0f7a4 r_4 (fun (r_6 : Int32) =>
 Q r_6 σ_5))))))) ∧
 (r_3 = 0 → J_2))))))))))
def f_X9_codeOf (a1 : Nat) (n1 : Nat) (σ : kk_St) (Q : Int32 → Prop) : Prop :=
 (kk_j1 (fun (v2_1 : Int32) => Q v2_1)
 (fun (J_2 : Int32 → Prop) => (kk_lp2 (fun (rec_5 : Int32 → Int32 → Prop) (v2_3 : Int32) (v3_4 : Int32) =>
 (((σ.1 1 6) ≤ v3_4 → J_2 v2_3) ∧
 (¬ (σ.1 1 6) ≤ v3_4 → (((6 : Int32) ≤ v3_4 → J_2 v2_3) ∧
 (¬ (6 : Int32) ≤ v3_4 → (vp_in v3_4 n1 ∧
 (∀ v2_6 : Int32, v2_6 = (v2_3 ||| (((kk_rd σ a1 v3_4) &&& (3 : Int32)) <<< (((2 : Int32) * v3_4) &&& 31))) → rec_5 v2_6 (v3_4 + (1 : Int32))))))))) (0 : Int32) (0 : Int32))))
def f_X9_fewestTurns (a1 : Nat) (n1 : Nat) (a2 : Nat) (n2 : Nat) (v3 : Int32) (σ : kk_St) (Q : Int32 → kk_St → Prop) : Prop :=
 (f_X9_prepare v3 σ (fun (σ_1 : kk_St) =>
 (f_X9_codeOf a2 n2 σ_1 (fun (r_2 : Int32) =>
 (f_X9_codeOf a1 n1 σ_1 (fun (r_3 : Int32) =>
 (f_X9_mark r_3 σ_1 (fun (σ_4 : kk_St) =>
 (kk_lp2 (fun (rec_7 : Int32 → kk_St → Prop) (v5_5 : Int32) (σ_6 : kk_St) =>
 (((4096 : Int32) < v5_5 → Q (-2 : Int32) σ_6) ∧
 (¬ (4096 : Int32) < v5_5 → (f_X9_isSeen r_2 σ_6 (fun (r_8 : Int32) =>
 ((r_8 = 0 → (f_X9_advance σ_6 (fun (r_9 : Int32) (σ_10 : kk_St) =>
 ((¬ r_9 = 0 → rec_7 (v5_5 + (1 : Int32)) σ_10) ∧
 (r_9 = 0 → Q (-2 : Int32) σ_10))))) ∧
 (¬ r_8 = 0 → Q v5_5 σ_6))))))) (0 : Int32) σ_4)))))))))
def f_X10_turns (v1 : Int32) (σ : kk_St) (Q : Int32 → kk_St → Prop) : Prop :=
 (kk_j0 (Q (-1 : Int32) σ)
 (fun (J_1 : Prop) => ((v1 < (1 : Int32) → J_1) ∧
 (¬ v1 < (1 : Int32) → (((4 : Int32) < v1 → J_1) ∧
 (¬ (4 : Int32) < v1 → (((σ.1 0 12) = 0 → J_1) ∧
 (¬ (σ.1 0 12) = 0 → (((σ.1 1 6) ≤ (6 : Int32) → (f_X10_areAllBelow 31 20 v1 σ (fun (r_2 : Int32) =>
 (kk_j0 (Q (-1 : Int32) σ)
 (fun (J_3 : Prop) => ((r_2 = 0 → J_3) ∧
 (¬ r_2 = 0 → (f_X10_areAllBelow 16 20 v1 σ (fun (r_4 : Int32) =>
 ((¬ r_4 = 0 → (f_X9_fewestTurns 31 20 16 20 v1 σ (fun (r_5 : Int32) (σ_6 : kk_St) =>
 Q r_5 σ_6))) ∧
 (r_4 = 0 → J_3))))))))))) ∧
 (¬ (σ.1 1 6) ≤ (6 : Int32) → J_1))))))))))
def f_X10_unlike (v1 : Int32) (σ : kk_St) (Q : Int32 → Prop) : Prop :=
 (kk_j0 (Q (-1 : Int32))
 (fun (J_1 : Prop) => ((v1 < 0 → J_1) ∧
 (¬ v1 < 0 → ((v1 ≤ (1 : Int32) → ((¬ (σ.1 0 12) = 0 → ((¬ v1 = 0 → (f_X10_isLikeKept σ (fun (r_2 : Int32) =>
 (kk_j1 (fun (t_3 : Int32) => Q t_3)
 (fun (J_4 : Int32 → Prop) => ((r_2 = 0 → J_4 (0 : Int32)) ∧
 (¬ r_2 = 0 → J_4 (1 : Int32)))))))) ∧
 (v1 = 0 → (f_X10_countUnlike σ (fun (r_6 : Int32) =>
 Q r_6))))) ∧
 ((σ.1 0 12) = 0 → Q (-2 : Int32)))) ∧
 (¬ v1 ≤ (1 : Int32) → J_1))))))
def f_X8_share : Nat → Int32 → Int32 → kk_St → (kk_St → Prop) → Prop
| 0, _, _, _, _ => False
| n + 1, v1, v2, σ, Q =>
 (kk_j0 ((vp_in v2 10 ∧
 (vp_in v2 10 ∧
 (∀ σ_2 : kk_St, σ_2 = (kk_wr σ 26 (Int32.toNatClampNeg v2) ((kk_rd σ 26 v2) + (1 : Int32))) → Q σ_2))))
 (fun (J_1 : Prop) => (((σ.1 1 6) ≤ v1 → J_1) ∧
 (¬ (σ.1 1 6) ≤ v1 → ((v1 < (9 : Int32) → (kk_j1 (fun (σ_3 : kk_St) => Q σ_3)
 (fun (J_4 : kk_St → Prop) => (kk_lp2 (fun (rec_7 : Int32 → kk_St → Prop) (v3_5 : Int32) (σ_6 : kk_St) =>
 ((v2 < v3_5 → J_4 σ_6) ∧
 (¬ v2 < v3_5 → (((9 : Int32) ≤ v3_5 → J_4 σ_6) ∧
 (¬ (9 : Int32) ≤ v3_5 → (vp_in v3_5 9 ∧
 (vp_in v1 20 ∧
 (kk_j1 (fun (σ_8 : kk_St) => rec_7 (v3_5 + (1 : Int32)) σ_8)
 (fun (J_9 : kk_St → Prop) => ((¬ ((kk_rd σ_6 25 v3_5) &&& (kk_rd σ_6 13 v1)) = 0 → J_9 σ_6) ∧
 (((kk_rd σ_6 25 v3_5) &&& (kk_rd σ_6 13 v1)) = 0 → (vp_in v3_5 9 ∧
 (vp_in v3_5 9 ∧
 (∀ σ_10 : kk_St, σ_10 = (kk_wr σ_6 25 (Int32.toNatClampNeg v3_5) ((kk_rd σ_6 25 v3_5) ||| ((1 : Int32) <<< (v1 &&& 31)))) → (f_X8_share n (v1 + (1 : Int32)) (kk_max v2 (v3_5 + (1 : Int32))) σ_10 (fun (σ_11 : kk_St) =>
 (vp_in v3_5 9 ∧
 (vp_in v3_5 9 ∧
 (∀ σ_12 : kk_St, σ_12 = (kk_wr σ_11 25 (Int32.toNatClampNeg v3_5) ((kk_rd σ_11 25 v3_5) &&& (((1 : Int32) <<< (v1 &&& 31)) ^^^ (-1 : Int32)))) → J_9 σ_12))))))))))))))))))) (0 : Int32) σ)))) ∧
 (¬ v1 < (9 : Int32) → J_1))))))
def f_X8_countColourings (v1 : Int32) (σ : kk_St) (Q : Int64 → kk_St → Prop) : Prop :=
 (f_J7_fill_53178 26 10 (0 : Int32) σ (fun (σ_1 : kk_St) =>
 (f_J7_fill_53178 25 9 (0 : Int32) σ_1 (fun (σ_2 : kk_St) =>
 (f_X8_share 30 (0 : Int32) (0 : Int32) σ_2 (fun (σ_3 : kk_St) =>
 (kk_lp3 (fun (rec_7 : Int64 → Int64 → Int32 → Prop) (v2_4 : Int64) (v4_5 : Int64) (v6_6 : Int32) =>
 (((9 : Int32) < v6_6 → Q v2_4 σ_3) ∧
 (¬ (9 : Int32) < v6_6 → (vp_in v6_6 10 ∧
 (∀ v2_8 : Int64, v2_8 = (v2_4 + ((Int32.toInt64 (kk_rd σ_3 26 v6_6)) * v4_5)) → (∀ v4_9 : Int64, v4_9 = (v4_5 * (Int32.toInt64 (v1 - v6_6))) → rec_7 v2_8 v4_9 (v6_6 + (1 : Int32)))))))) (0 : Int64) (1 : Int64) (0 : Int32))))))))
def f_X10_ways (v1 : Int32) (σ : kk_St) (Q : Int64 → kk_St → Prop) : Prop :=
 (f_X10_isFew v1 (fun (r_1 : Int32) =>
 ((¬ r_1 = 0 → (kk_j2 (fun (t_2 : Int64) (σ_3 : kk_St) => Q t_2 σ_3)
 (fun (J_4 : Int64 → kk_St → Prop) => (((σ.1 1 6) ≤ (9 : Int32) → (f_X8_countColourings v1 σ (fun (r_5 : Int64) (σ_6 : kk_St) =>
 J_4 r_5 σ_6))) ∧
 (¬ (σ.1 1 6) ≤ (9 : Int32) → J_4 (-2 : Int64) σ))))) ∧
 (r_1 = 0 → Q (-1 : Int64) σ))))
def f_X11_allLines (σ : kk_St) (Q : Int32 → Prop) : Prop :=
 Q (((1 : Int32) <<< ((σ.1 0 2) &&& 31)) - (1 : Int32))
def f_X11_allPosts (σ : kk_St) (Q : Int32 → Prop) : Prop :=
 Q (((1 : Int32) <<< ((σ.1 0 1) &&& 31)) - (1 : Int32))
def f_X11_apartBy (v1 : Int32) (v2 : Int32) (σ : kk_St) (Q : Int32 → Prop) : Prop :=
 (vp_in (((512 : Int32) * v1) + v2) 10752 ∧
 Q (kk_rd σ 21 (((512 : Int32) * v1) + v2)))
def f_X11_in (v0 : Int32) (v1 : Int32) (v2 : Int32) (Q : Int32 → Prop) : Prop :=
 (kk_j1 (fun (t_1 : Int32) => ((t_1 = 0 ∨ t_1 = 1) ∧ Q t_1))
 (fun (J_2 : Int32 → Prop) => (kk_j0 (J_2 (0 : Int32))
 (fun (J_3 : Prop) => ((v0 < v1 → J_3) ∧
 (¬ v0 < v1 → ((v2 < v0 → J_3) ∧
 (¬ v2 < v0 → J_2 (1 : Int32)))))))))
def f_X11_has (v0 : Int32) (v1 : Int32) (Q : Int32 → Prop) : Prop :=
 (kk_j1 (fun (t_1 : Int32) => ((t_1 = 0 ∨ t_1 = 1) ∧ Q t_1))
 (fun (J_2 : Int32 → Prop) => ((¬ ((v0 >>> (v1 &&& 31)) &&& (1 : Int32)) = (1 : Int32) → J_2 (0 : Int32)) ∧
 (((v0 >>> (v1 &&& 31)) &&& (1 : Int32)) = (1 : Int32) → J_2 (1 : Int32)))))
def f_X11_areThere (v1 : Int32) (v2 : Int32) (σ : kk_St) (Q : Int32 → Prop) : Prop :=
 (vp_in v2 20 ∧
 (f_X11_has v1 (kk_rd σ 1 v2) (fun (r_1 : Int32) =>
 (kk_j1 (fun (t_2 : Int32) => ((t_2 = 0 ∨ t_2 = 1) ∧ Q t_2))
 (fun (J_3 : Int32 → Prop) => (kk_j0 (J_3 (0 : Int32))
 (fun (J_4 : Prop) => ((r_1 = 0 → J_4) ∧
 (¬ r_1 = 0 → (vp_in v2 20 ∧
 (f_X11_has v1 (kk_rd σ 2 v2) (fun (r_5 : Int32) =>
 ((r_5 = 0 → J_4) ∧
 (¬ r_5 = 0 → J_3 (1 : Int32)))))))))))))))
def f_X11_without (v1 : Int32) (v2 : Int32) (σ : kk_St) (Q : Int32 → Prop) : Prop :=
 (vp_in v2 20 ∧
 (vp_in v2 20 ∧
 Q ((v1 &&& (((1 : Int32) <<< ((kk_rd σ 1 v2) &&& 31)) ^^^ (-1 : Int32))) &&& (((1 : Int32) <<< ((kk_rd σ 2 v2) &&& 31)) ^^^ (-1 : Int32)))))
def f_X11_laysApart (σ : kk_St) (Q : kk_St → Prop) : Prop :=
 (kk_lp2 (fun (rec_3 : Int32 → kk_St → Prop) (v1_1 : Int32) (σ_2 : kk_St) =>
 (((512 : Int32) ≤ v1_1 → (kk_lp2 (fun (rec_6 : Int32 → kk_St → Prop) (v1_4 : Int32) (σ_5 : kk_St) =>
 (((σ_5.1 0 2) ≤ v1_4 → Q σ_5) ∧
 (¬ (σ_5.1 0 2) ≤ v1_4 → (kk_lp2 (fun (rec_9 : Int32 → kk_St → Prop) (v2_7 : Int32) (σ_8 : kk_St) =>
 (((512 : Int32) ≤ v2_7 → rec_6 (v1_4 + (1 : Int32)) σ_8) ∧
 (¬ (512 : Int32) ≤ v2_7 → (f_X11_apartBy v1_4 v2_7 σ_8 (fun (r_10 : Int32) =>
 (f_X11_areThere v2_7 v1_4 σ_8 (fun (r_11 : Int32) =>
 (kk_j1 (fun (v3_12 : Int32) => (vp_in (((512 : Int32) * (v1_4 + (1 : Int32))) + v2_7) 10752 ∧
 (∀ σ_14 : kk_St, σ_14 = (kk_wr σ_8 21 (Int32.toNatClampNeg (((512 : Int32) * (v1_4 + (1 : Int32))) + v2_7)) v3_12) → rec_9 (v2_7 + (1 : Int32)) σ_14)))
 (fun (J_13 : Int32 → Prop) => ((r_11 = 0 → J_13 r_10) ∧
 (¬ r_11 = 0 → (f_X11_without v2_7 v1_4 σ_8 (fun (r_15 : Int32) =>
 (f_X11_apartBy v1_4 r_15 σ_8 (fun (r_16 : Int32) =>
 ((((1 : Int32) + r_16) ≤ r_10 → J_13 r_10) ∧
 (¬ ((1 : Int32) + r_16) ≤ r_10 → J_13 ((1 : Int32) + r_16)))))))))))))))))) (0 : Int32) σ_5)))) (0 : Int32) σ_2)) ∧
 (¬ (512 : Int32) ≤ v1_1 → (vp_in v1_1 10752 ∧
 (∀ σ_21 : kk_St, σ_21 = (kk_wr σ_2 21 (Int32.toNatClampNeg v1_1) (0 : Int32)) → rec_3 (v1_1 + (1 : Int32)) σ_21))))) (0 : Int32) σ)
def f_X11_apart (v1 : Int32) (σ : kk_St) (Q : Int32 → kk_St → Prop) : Prop :=
 (f_X11_in v1 (0 : Int32) (1 : Int32) (fun (r_1 : Int32) =>
 ((¬ r_1 = 0 → (f_X11_laysApart σ (fun (σ_2 : kk_St) =>
 (f_X11_allPosts σ_2 (fun (r_3 : Int32) =>
 ((¬ v1 = 0 → (∀ v4_4 : Int32, v4_4 = ((σ_2.1 0 2) - (1 : Int32)) → (kk_lp3 (fun (rec_8 : Int32 → Int32 → Int32 → Prop) (v2_5 : Int32) (v3_6 : Int32) (v4_7 : Int32) =>
 ((v4_7 < 0 → Q v3_6 σ_2) ∧
 (¬ v4_7 < 0 → (f_X11_apartBy v4_7 v2_5 σ_2 (fun (r_9 : Int32) =>
 (f_X11_apartBy (v4_7 + (1 : Int32)) v2_5 σ_2 (fun (r_10 : Int32) =>
 (kk_j2 (fun (v2_11 : Int32) (v3_12 : Int32) => rec_8 v2_11 v3_12 (v4_7 + (-1 : Int32)))
 (fun (J_13 : Int32 → Int32 → Prop) => ((¬ r_9 = r_10 → (∀ v3_14 : Int32, v3_14 = (v3_6 ||| ((1 : Int32) <<< (v4_7 &&& 31))) → (f_X11_without v2_5 v4_7 σ_2 (fun (r_15 : Int32) =>
 J_13 r_15 v3_14)))) ∧
 (r_9 = r_10 → J_13 v2_5 v3_6))))))))))) r_3 (0 : Int32) v4_4))) ∧
 (v1 = 0 → (f_X11_apartBy (σ_2.1 0 2) r_3 σ_2 (fun (r_18 : Int32) =>
 Q r_18 σ_2))))))))) ∧
 (r_1 = 0 → Q (-1 : Int32) σ))))
def f_X11_areBelow (a1 : Nat) (n1 : Nat) (v2 : Int32) (σ : kk_St) (Q : Int32 → Prop) : Prop :=
 (kk_lp1 (fun (rec_2 : Int32 → Prop) (v3_1 : Int32) =>
 (((σ.1 0 2) ≤ v3_1 → Q (1 : Int32)) ∧
 (¬ (σ.1 0 2) ≤ v3_1 → (vp_in v3_1 n1 ∧
 (f_X11_in (kk_rd σ a1 v3_1) (0 : Int32) (v2 - (1 : Int32)) (fun (r_3 : Int32) =>
 ((¬ r_3 = 0 → rec_2 (v3_1 + (1 : Int32))) ∧
 (r_3 = 0 → Q (0 : Int32))))))))) (0 : Int32))
def f_X11_isAt (v1 : Int32) (v2 : Int32) (σ : kk_St) (Q : Int32 → Prop) : Prop :=
 (vp_in v1 20 ∧
 (kk_j1 (fun (t_1 : Int32) => ((t_1 = 0 ∨ t_1 = 1) ∧ Q t_1))
 (fun (J_2 : Int32 → Prop) => (kk_j0 (J_2 (1 : Int32))
 (fun (J_3 : Prop) => (((kk_rd σ 1 v1) = v2 → J_3) ∧
 (¬ (kk_rd σ 1 v1) = v2 → (vp_in v1 20 ∧
 ((¬ (kk_rd σ 2 v1) = v2 → J_2 (0 : Int32)) ∧
 ((kk_rd σ 2 v1) = v2 → J_3))))))))))
def f_X11_linesAt (v1 : Int32) (v2 : Int32) (σ : kk_St) (Q : Int32 → Prop) : Prop :=
 (kk_lp2 (fun (rec_3 : Int32 → Int32 → Prop) (v3_1 : Int32) (v4_2 : Int32) =>
 (((σ.1 0 2) ≤ v4_2 → Q v3_1) ∧
 (¬ (σ.1 0 2) ≤ v4_2 → (f_X11_has v2 v4_2 (fun (r_4 : Int32) =>
 (kk_j1 (fun (v3_5 : Int32) => rec_3 v3_5 (v4_2 + (1 : Int32)))
 (fun (J_6 : Int32 → Prop) => ((r_4 = 0 → J_6 v3_1) ∧
 (¬ r_4 = 0 → (f_X11_isAt v4_2 v1 σ (fun (r_7 : Int32) =>
 ((r_7 = 0 → J_6 v3_1) ∧
 (¬ r_7 = 0 → J_6 (v3_1 + (1 : Int32))))))))))))))) (0 : Int32) (0 : Int32))
def f_X11_degreeOf (v1 : Int32) (σ : kk_St) (Q : Int32 → Prop) : Prop :=
 (kk_lp2 (fun (rec_3 : Int32 → Int32 → Prop) (v2_1 : Int32) (v3_2 : Int32) =>
 (((σ.1 0 1) ≤ v3_2 → Q v2_1) ∧
 (¬ (σ.1 0 1) ≤ v3_2 → (f_X11_linesAt v3_2 v1 σ (fun (r_4 : Int32) =>
 (kk_j1 (fun (v2_5 : Int32) => rec_3 v2_5 (v3_2 + (1 : Int32)))
 (fun (J_6 : Int32 → Prop) => ((r_4 ≤ v2_1 → J_6 v2_1) ∧
 (¬ r_4 ≤ v2_1 → J_6 r_4))))))))) (0 : Int32) (0 : Int32))
def f_X11_degree (σ : kk_St) (Q : Int32 → Prop) : Prop :=
 (f_X11_allLines σ (fun (r_1 : Int32) =>
 (f_X11_degreeOf r_1 σ (fun (r_2 : Int32) =>
 Q r_2))))
def f_X11_isColour (v1 : Int32) (σ : kk_St) (Q : Int32 → Prop) : Prop :=
 (f_X11_degree σ (fun (r_1 : Int32) =>
 (f_X11_in v1 (0 : Int32) r_1 (fun (r_2 : Int32) =>
 ((r_2 = 0 ∨ r_2 = 1) ∧ Q r_2)))))
def f_X11_areColours (v1 : Int32) (v2 : Int32) (σ : kk_St) (Q : Int32 → Prop) : Prop :=
 (f_X11_isColour v1 σ (fun (r_1 : Int32) =>
 (kk_j1 (fun (t_2 : Int32) => ((t_2 = 0 ∨ t_2 = 1) ∧ Q t_2))
 (fun (J_3 : Int32 → Prop) => (kk_j0 (J_3 (0 : Int32))
 (fun (J_4 : Prop) => ((r_1 = 0 → J_4) ∧
 (¬ r_1 = 0 → (f_X11_isColour v2 σ (fun (r_5 : Int32) =>
 ((r_5 = 0 → J_4) ∧
 (¬ r_5 = 0 → ((v1 = v2 → J_4) ∧
 (¬ v1 = v2 → J_3 (1 : Int32)))))))))))))))
def f_X11_areLike (σ : kk_St) (Q : Int32 → Prop) : Prop :=
 (kk_lp1 (fun (rec_2 : Int32 → Prop) (v1_1 : Int32) =>
 (((σ.1 0 2) ≤ v1_1 → Q (1 : Int32)) ∧
 (¬ (σ.1 0 2) ≤ v1_1 → (vp_in v1_1 20 ∧
 (kk_j1 (fun (t_3 : Int32) => (vp_in v1_1 20 ∧
 (kk_j1 (fun (t_5 : Int32) => ((t_3 = t_5 → (kk_lp1 (fun (rec_8 : Int32 → Prop) (v2_7 : Int32) =>
 ((v1_1 ≤ v2_7 → rec_2 (v1_1 + (1 : Int32))) ∧
 (¬ v1_1 ≤ v2_7 → (vp_in v1_1 20 ∧
 (vp_in v2_7 20 ∧
 (kk_j1 (fun (t_9 : Int32) => (vp_in v1_1 20 ∧
 (vp_in v2_7 20 ∧
 (kk_j1 (fun (t_11 : Int32) => ((t_9 = t_11 → rec_8 (v2_7 + (1 : Int32))) ∧
 (¬ t_9 = t_11 → Q (0 : Int32))))
 (fun (J_12 : Int32 → Prop) => ((¬ (kk_rd σ 3 v1_1) = (kk_rd σ 3 v2_7) → J_12 (0 : Int32)) ∧
 ((kk_rd σ 3 v1_1) = (kk_rd σ 3 v2_7) → J_12 (1 : Int32))))))))
 (fun (J_10 : Int32 → Prop) => ((¬ (kk_rd σ 5 v1_1) = (kk_rd σ 5 v2_7) → J_10 (0 : Int32)) ∧
 ((kk_rd σ 5 v1_1) = (kk_rd σ 5 v2_7) → J_10 (1 : Int32)))))))))) (0 : Int32))) ∧
 (¬ t_3 = t_5 → Q (0 : Int32))))
 (fun (J_6 : Int32 → Prop) => ((0 ≤ (kk_rd σ 3 v1_1) → J_6 (0 : Int32)) ∧
 (¬ 0 ≤ (kk_rd σ 3 v1_1) → J_6 (1 : Int32)))))))
 (fun (J_4 : Int32 → Prop) => ((0 ≤ (kk_rd σ 5 v1_1) → J_4 (0 : Int32)) ∧
 (¬ 0 ≤ (kk_rd σ 5 v1_1) → J_4 (1 : Int32))))))))) (0 : Int32))
def f_X11_unlikeMany (σ : kk_St) (Q : Int32 → Prop) : Prop :=
 (kk_lp2 (fun (rec_3 : Int32 → Int32 → Prop) (v1_1 : Int32) (v2_2 : Int32) =>
 (((σ.1 0 2) ≤ v2_2 → Q v1_1) ∧
 (¬ (σ.1 0 2) ≤ v2_2 → (vp_in v2_2 20 ∧
 (vp_in v2_2 20 ∧
 (kk_j1 (fun (v1_4 : Int32) => rec_3 v1_4 (v2_2 + (1 : Int32)))
 (fun (J_5 : Int32 → Prop) => (((kk_rd σ 5 v2_2) = (kk_rd σ 3 v2_2) → J_5 v1_1) ∧
 (¬ (kk_rd σ 5 v2_2) = (kk_rd σ 3 v2_2) → J_5 (v1_1 + (1 : Int32))))))))))) (0 : Int32) (0 : Int32))
def f_X11_back (σ : kk_St) (Q : Int32 → kk_St → Prop) : Prop :=
 ((¬ (σ.1 0 8) = 0 → (f_X11_unlikeMany σ (fun (r_1 : Int32) =>
 (kk_lp2 (fun (rec_4 : Int32 → kk_St → Prop) (v2_2 : Int32) (σ_3 : kk_St) =>
 (((σ_3.1 0 2) ≤ v2_2 → Q r_1 σ_3) ∧
 (¬ (σ_3.1 0 2) ≤ v2_2 → (vp_in v2_2 20 ∧
 (vp_in v2_2 20 ∧
 (∀ σ_5 : kk_St, σ_5 = (kk_wr σ_3 3 (Int32.toNatClampNeg v2_2) (kk_rd σ_3 5 v2_2)) → rec_4 (v2_2 + (1 : Int32)) σ_5)))))) (0 : Int32) σ)))) ∧
 ((σ.1 0 8) = 0 → Q (-1 : Int32) σ))
def f_X11_isLine (v1 : Int32) (σ : kk_St) (Q : Int32 → Prop) : Prop :=
 (f_X11_in v1 (0 : Int32) ((σ.1 0 2) - (1 : Int32)) (fun (r_1 : Int32) =>
 ((r_1 = 0 ∨ r_1 = 1) ∧ Q r_1)))
def f_X11_bare (v1 : Int32) (σ : kk_St) (Q : Int32 → kk_St → Prop) : Prop :=
 (f_X11_isLine v1 σ (fun (r_1 : Int32) =>
 ((¬ r_1 = 0 → (vp_in v1 20 ∧
 (vp_in v1 20 ∧
 (∀ σ_2 : kk_St, σ_2 = (kk_wr σ 3 (Int32.toNatClampNeg v1) (-1 : Int32)) → Q (kk_rd σ 3 v1) σ_2)))) ∧
 (r_1 = 0 → Q (-1 : Int32) σ))))
def f_X11_manyWith (v1 : Int32) (v2 : Int32) (σ : kk_St) (Q : Int32 → Prop) : Prop :=
 (kk_lp2 (fun (rec_3 : Int32 → Int32 → Prop) (v3_1 : Int32) (v4_2 : Int32) =>
 (((σ.1 0 2) ≤ v4_2 → Q v3_1) ∧
 (¬ (σ.1 0 2) ≤ v4_2 → (f_X11_has v1 v4_2 (fun (r_4 : Int32) =>
 (kk_j1 (fun (v3_5 : Int32) => rec_3 v3_5 (v4_2 + (1 : Int32)))
 (fun (J_6 : Int32 → Prop) => ((r_4 = 0 → J_6 v3_1) ∧
 (¬ r_4 = 0 → (vp_in v4_2 20 ∧
 ((¬ (kk_rd σ 3 v4_2) = v2 → J_6 v3_1) ∧
 ((kk_rd σ 3 v4_2) = v2 → J_6 (v3_1 + (1 : Int32)))))))))))))) (0 : Int32) (0 : Int32))
def f_X11_bareMany (σ : kk_St) (Q : Int32 → Prop) : Prop :=
 (f_X11_allLines σ (fun (r_1 : Int32) =>
 (f_X11_manyWith r_1 (-1 : Int32) σ (fun (r_2 : Int32) =>
 Q r_2))))
def f_X11_begin (v1 : Int32) (σ : kk_St) (Q : Int32 → kk_St → Prop) : Prop :=
 (f_X11_in v1 (1 : Int32) (9 : Int32) (fun (r_1 : Int32) =>
 ((¬ r_1 = 0 → (∀ σ_2 : kk_St, σ_2 = (kk_wr σ 0 1 v1) → (∀ σ_3 : kk_St, σ_3 = (kk_wr σ_2 0 2 (0 : Int32)) → (∀ σ_4 : kk_St, σ_4 = (kk_wr σ_3 0 8 (0 : Int32)) → (∀ σ_5 : kk_St, σ_5 = (kk_wr σ_4 0 12 (0 : Int32)) → Q (1 : Int32) σ_5))))) ∧
 (r_1 = 0 → Q (0 : Int32) σ))))
def f_X11_bitsOf (v0 : Int32) (Q : Int32 → Prop) : Prop :=
 (∀ v1_1 : Int32, v1_1 = (v0 - ((v0 >>> ((1 : Int32) &&& 31)) &&& (1431655765 : Int32))) → (∀ v1_2 : Int32, v1_2 = ((v1_1 &&& (858993459 : Int32)) + ((v1_1 >>> ((2 : Int32) &&& 31)) &&& (858993459 : Int32))) → (∀ v1_3 : Int32, v1_3 = ((v1_2 + (v1_2 >>> ((4 : Int32) &&& 31))) &&& (252645135 : Int32)) → Q ((v1_3 * (16843009 : Int32)) >>> ((24 : Int32) &&& 31)))))
def f_X11_lowestOf (v0 : Int32) (Q : Int32 → Prop) : Prop :=
 (kk_lp1 (fun (rec_2 : Int32 → Prop) (v1_1 : Int32) =>
 (f_X11_has v0 v1_1 (fun (r_3 : Int32) =>
 ((¬ r_3 = 0 → Q v1_1) ∧
 (r_3 = 0 → rec_2 (v1_1 + (1 : Int32))))))) (0 : Int32))
def f_X11_usedAt (v1 : Int32) (σ : kk_St) (Q : Int32 → Prop) : Prop :=
 (kk_lp2 (fun (rec_3 : Int32 → Int32 → Prop) (v2_1 : Int32) (v3_2 : Int32) =>
 (((σ.1 0 2) ≤ v3_2 → Q v2_1) ∧
 (¬ (σ.1 0 2) ≤ v3_2 → (f_X11_isAt v3_2 v1 σ (fun (r_4 : Int32) =>
 (kk_j1 (fun (v2_5 : Int32) => rec_3 v2_5 (v3_2 + (1 : Int32)))
 (fun (J_6 : Int32 → Prop) => ((r_4 = 0 → J_6 v2_1) ∧
 (¬ r_4 = 0 → (vp_in v3_2 20 ∧
 (((kk_rd σ 3 v3_2) < 0 → J_6 v2_1) ∧
 (¬ (kk_rd σ 3 v3_2) < 0 → (vp_in v3_2 20 ∧
 (∀ v2_7 : Int32, v2_7 = (v2_1 ||| ((1 : Int32) <<< ((kk_rd σ 3 v3_2) &&& 31))) → J_6 v2_7)))))))))))))) (0 : Int32) (0 : Int32))
def f_X11_idleAt (v1 : Int32) (σ : kk_St) (Q : Int32 → Prop) : Prop :=
 (f_X11_usedAt v1 σ (fun (r_1 : Int32) =>
 ((¬ r_1 = 0 → (f_X11_lowestOf r_1 (fun (r_2 : Int32) =>
 (kk_lp2 (fun (rec_5 : Int32 → Int32 → Prop) (v3_3 : Int32) (v4_4 : Int32) =>
 (((20 : Int32) ≤ v4_4 → (f_X11_lowestOf r_1 (fun (r_6 : Int32) =>
 (f_X11_bitsOf r_1 (fun (r_7 : Int32) =>
 Q (((v3_3 - r_6) - r_7) + (1 : Int32))))))) ∧
 (¬ (20 : Int32) ≤ v4_4 → (f_X11_has r_1 v4_4 (fun (r_8 : Int32) =>
 (kk_j1 (fun (v3_9 : Int32) => rec_5 v3_9 (v4_4 + (1 : Int32)))
 (fun (J_10 : Int32 → Prop) => ((r_8 = 0 → J_10 v3_3) ∧
 (¬ r_8 = 0 → J_10 v4_4))))))))) r_2 r_2)))) ∧
 (r_1 = 0 → Q (0 : Int32)))))
def f_X11_idleAll (σ : kk_St) (Q : Int32 → Prop) : Prop :=
 (kk_lp2 (fun (rec_3 : Int32 → Int32 → Prop) (v1_1 : Int32) (v2_2 : Int32) =>
 (((σ.1 0 1) ≤ v2_2 → Q v1_1) ∧
 (¬ (σ.1 0 1) ≤ v2_2 → (f_X11_idleAt v2_2 σ (fun (r_4 : Int32) =>
 rec_3 (v1_1 + r_4) (v2_2 + (1 : Int32))))))) (0 : Int32) (0 : Int32))
def f_X11_swaps (v1 : Int32) (v2 : Int32) (σ : kk_St) (Q : Int32 → kk_St → Prop) : Prop :=
 (kk_lp3 (fun (rec_4 : Int32 → Int32 → kk_St → Prop) (v3_1 : Int32) (v4_2 : Int32) (σ_3 : kk_St) =>
 (((σ_3.1 0 2) ≤ v4_2 → Q v3_1 σ_3) ∧
 (¬ (σ_3.1 0 2) ≤ v4_2 → (vp_in v4_2 20 ∧
 (kk_j2 (fun (v3_5 : Int32) (σ_6 : kk_St) => rec_4 v3_5 (v4_2 + (1 : Int32)) σ_6)
 (fun (J_7 : Int32 → kk_St → Prop) => (kk_j0 ((vp_in v4_2 20 ∧
 (vp_in v4_2 20 ∧
 (∀ σ_9 : kk_St, σ_9 = (kk_wr σ_3 3 (Int32.toNatClampNeg v4_2) ((v1 + v2) - (kk_rd σ_3 3 v4_2))) → J_7 (v3_1 + (1 : Int32)) σ_9))))
 (fun (J_8 : Prop) => (((kk_rd σ_3 3 v4_2) = v1 → J_8) ∧
 (¬ (kk_rd σ_3 3 v4_2) = v1 → (vp_in v4_2 20 ∧
 (((kk_rd σ_3 3 v4_2) = v2 → J_8) ∧
 (¬ (kk_rd σ_3 3 v4_2) = v2 → J_7 v3_1 σ_3))))))))))))) (0 : Int32) (0 : Int32) σ)
def f_X11_calmer (v1 : Int32) (σ : kk_St) (Q : Int32 → kk_St → Prop) : Prop :=
 (f_X11_in v1 (0 : Int32) (2 : Int32) (fun (r_1 : Int32) =>
 ((¬ r_1 = 0 → (f_X11_idleAll σ (fun (r_2 : Int32) =>
 (kk_lp5 (fun (rec_8 : Int32 → Int32 → Int32 → Int32 → kk_St → Prop) (v3_3 : Int32) (v4_4 : Int32) (v5_5 : Int32) (v6_6 : Int32) (σ_7 : kk_St) =>
 (f_X11_degree σ_7 (fun (r_9 : Int32) =>
 ((r_9 < v6_6 → (kk_j1 (fun (t_10 : Int32) => Q t_10 σ_7)
 (fun (J_11 : Int32 → Prop) => ((¬ v4_4 = (-1 : Int32) → ((¬ v1 = 0 → ((¬ v1 = (1 : Int32) → J_11 v5_5) ∧
 (v1 = (1 : Int32) → J_11 v4_4))) ∧
 (v1 = 0 → J_11 (r_2 - v3_3)))) ∧
 (v4_4 = (-1 : Int32) → J_11 (-2 : Int32)))))) ∧
 (¬ r_9 < v6_6 → (kk_lp5 (fun (rec_20 : Int32 → Int32 → Int32 → Int32 → kk_St → Prop) (v3_15 : Int32) (v4_16 : Int32) (v5_17 : Int32) (v7_18 : Int32) (σ_19 : kk_St) =>
 (f_X11_degree σ_19 (fun (r_21 : Int32) =>
 ((r_21 < v7_18 → rec_8 v3_15 v4_16 v5_17 (v6_6 + (1 : Int32)) σ_19) ∧
 (¬ r_21 < v7_18 → (f_X11_swaps v6_6 v7_18 σ_19 (fun (r_22 : Int32) (σ_23 : kk_St) =>
 (f_X11_idleAll σ_23 (fun (r_24 : Int32) =>
 (f_X11_swaps v6_6 v7_18 σ_23 (fun (r_25 : Int32) (σ_26 : kk_St) =>
 (kk_j3 (fun (v3_27 : Int32) (v4_28 : Int32) (v5_29 : Int32) => rec_20 v3_27 v4_28 v5_29 (v7_18 + (1 : Int32)) σ_26)
 (fun (J_30 : Int32 → Int32 → Int32 → Prop) => ((¬ (r_22 - r_25) = 0 → J_30 v3_15 v4_16 v5_17) ∧
 ((r_22 - r_25) = 0 → ((r_24 < v3_15 → J_30 r_24 v6_6 v7_18) ∧
 (¬ r_24 < v3_15 → J_30 v3_15 v4_16 v5_17))))))))))))))))) v3_3 v4_4 v5_5 (v6_6 + (1 : Int32)) σ_7)))))) r_2 (-1 : Int32) (-1 : Int32) (0 : Int32) σ)))) ∧
 (r_1 = 0 → Q (-1 : Int32) σ))))
def f_X11_waysOf (v1 : Int32) (σ : kk_St) (Q : Int32 → Prop) : Prop :=
 (vp_in v1 20 ∧
 (vp_in v1 20 ∧
 (vp_in (kk_rd σ 1 v1) 9 ∧
 (vp_in v1 20 ∧
 (vp_in (kk_rd σ 2 v1) 9 ∧
 Q (((kk_rd σ 10 v1) &&& ((kk_rd σ 12 (kk_rd σ 1 v1)) ^^^ (-1 : Int32))) &&& ((kk_rd σ 12 (kk_rd σ 2 v1)) ^^^ (-1 : Int32))))))))
def f_X11_canBeAt (v1 : Int32) (v2 : Int32) (σ : kk_St) (Q : Int32 → Prop) : Prop :=
 (kk_lp3 (fun (rec_4 : Int32 → Int32 → Int32 → Prop) (v3_1 : Int32) (v4_2 : Int32) (v5_3 : Int32) =>
 (((σ.1 0 2) ≤ v5_3 → (f_X11_bitsOf v4_2 (fun (r_5 : Int32) =>
 (kk_j1 (fun (t_6 : Int32) => ((t_6 = 0 ∨ t_6 = 1) ∧ Q t_6))
 (fun (J_7 : Int32 → Prop) => ((r_5 < v3_1 → J_7 (0 : Int32)) ∧
 (¬ r_5 < v3_1 → J_7 (1 : Int32)))))))) ∧
 (¬ (σ.1 0 2) ≤ v5_3 → (f_X11_has v2 v5_3 (fun (r_9 : Int32) =>
 (kk_j2 (fun (v3_10 : Int32) (v4_11 : Int32) => rec_4 v3_10 v4_11 (v5_3 + (1 : Int32)))
 (fun (J_12 : Int32 → Int32 → Prop) => ((r_9 = 0 → J_12 v3_1 v4_2) ∧
 (¬ r_9 = 0 → (vp_in v5_3 20 ∧
 ((0 ≤ (kk_rd σ 11 v5_3) → J_12 v3_1 v4_2) ∧
 (¬ 0 ≤ (kk_rd σ 11 v5_3) → (f_X11_isAt v5_3 v1 σ (fun (r_13 : Int32) =>
 ((¬ r_13 = 0 → (f_X11_waysOf v5_3 σ (fun (r_14 : Int32) =>
 J_12 (v3_1 + (1 : Int32)) (v4_2 ||| r_14)))) ∧
 (r_13 = 0 → J_12 v3_1 v4_2)))))))))))))))) (0 : Int32) (0 : Int32) (0 : Int32))
def f_X11_canBeEnough (v1 : Int32) (σ : kk_St) (Q : Int32 → Prop) : Prop :=
 (kk_lp1 (fun (rec_2 : Int32 → Prop) (v2_1 : Int32) =>
 (((σ.1 0 1) ≤ v2_1 → (kk_lp1 (fun (rec_4 : Int32 → Prop) (v2_3 : Int32) =>
 (((σ.1 0 23) ≤ v2_3 → Q (1 : Int32)) ∧
 (¬ (σ.1 0 23) ≤ v2_3 → (kk_lp4 (fun (rec_9 : Int32 → Int32 → Int32 → Int32 → Prop) (v3_5 : Int32) (v4_6 : Int32) (v5_7 : Int32) (v6_8 : Int32) =>
 (((σ.1 0 2) ≤ v6_8 → (kk_lp2 (fun (rec_12 : Int32 → Int32 → Prop) (v6_10 : Int32) (v7_11 : Int32) =>
 (((9 : Int32) ≤ v7_11 → ((v3_5 ≤ v6_10 → rec_4 (v2_3 + (1 : Int32))) ∧
 (¬ v3_5 ≤ v6_10 → Q (0 : Int32)))) ∧
 (¬ (9 : Int32) ≤ v7_11 → (kk_lp2 (fun (rec_16 : Int32 → Int32 → Prop) (v8_14 : Int32) (v9_15 : Int32) =>
 (((σ.1 0 1) ≤ v9_15 → (∀ v6_17 : Int32, v6_17 = (v6_10 + (v8_14 / (2 : Int32))) → rec_12 v6_17 (v7_11 + (1 : Int32)))) ∧
 (¬ (σ.1 0 1) ≤ v9_15 → (f_X11_has v4_6 v9_15 (fun (r_18 : Int32) =>
 (kk_j1 (fun (v8_19 : Int32) => rec_16 v8_19 (v9_15 + (1 : Int32)))
 (fun (J_20 : Int32 → Prop) => ((r_18 = 0 → J_20 v8_14) ∧
 (¬ r_18 = 0 → (vp_in v9_15 9 ∧
 (f_X11_has (v5_7 &&& ((kk_rd σ 12 v9_15) ^^^ (-1 : Int32))) v7_11 (fun (r_21 : Int32) =>
 ((r_21 = 0 → J_20 v8_14) ∧
 (¬ r_21 = 0 → J_20 (v8_14 + (1 : Int32)))))))))))))))) (0 : Int32) (0 : Int32))))) (0 : Int32) (0 : Int32))) ∧
 (¬ (σ.1 0 2) ≤ v6_8 → (f_X11_has v1 v6_8 (fun (r_26 : Int32) =>
 (kk_j3 (fun (v3_27 : Int32) (v4_28 : Int32) (v5_29 : Int32) => rec_9 v3_27 v4_28 v5_29 (v6_8 + (1 : Int32)))
 (fun (J_30 : Int32 → Int32 → Int32 → Prop) => ((r_26 = 0 → J_30 v3_5 v4_6 v5_7) ∧
 (¬ r_26 = 0 → (vp_in v6_8 20 ∧
 ((0 ≤ (kk_rd σ 11 v6_8) → J_30 v3_5 v4_6 v5_7) ∧
 (¬ 0 ≤ (kk_rd σ 11 v6_8) → (vp_in v2_3 9 ∧
 (vp_in v6_8 20 ∧
 (f_X11_has (kk_rd σ 15 v2_3) (kk_rd σ 1 v6_8) (fun (r_31 : Int32) =>
 ((¬ r_31 = 0 → (vp_in v6_8 20 ∧
 (vp_in v6_8 20 ∧
 (∀ v4_32 : Int32, v4_32 = (v4_6 ||| (((1 : Int32) <<< ((kk_rd σ 1 v6_8) &&& 31)) ||| ((1 : Int32) <<< ((kk_rd σ 2 v6_8) &&& 31)))) → (vp_in v6_8 20 ∧
 (∀ v5_33 : Int32, v5_33 = (v5_7 ||| (kk_rd σ 10 v6_8)) → J_30 (v3_5 + (1 : Int32)) v4_32 v5_33)))))) ∧
 (r_31 = 0 → J_30 v3_5 v4_6 v5_7)))))))))))))))))) (0 : Int32) (0 : Int32) (0 : Int32) (0 : Int32))))) (0 : Int32))) ∧
 (¬ (σ.1 0 1) ≤ v2_1 → (f_X11_canBeAt v2_1 v1 σ (fun (r_39 : Int32) =>
 ((¬ r_39 = 0 → rec_2 (v2_1 + (1 : Int32))) ∧
 (r_39 = 0 → Q (0 : Int32)))))))) (0 : Int32))
def f_X11_doMeet (v1 : Int32) (v2 : Int32) (σ : kk_St) (Q : Int32 → Prop) : Prop :=
 (vp_in v2 20 ∧
 (f_X11_isAt v1 (kk_rd σ 1 v2) σ (fun (r_1 : Int32) =>
 (kk_j1 (fun (t_2 : Int32) => ((t_2 = 0 ∨ t_2 = 1) ∧ Q t_2))
 (fun (J_3 : Int32 → Prop) => (kk_j0 (J_3 (1 : Int32))
 (fun (J_4 : Prop) => ((¬ r_1 = 0 → J_4) ∧
 (r_1 = 0 → (vp_in v2 20 ∧
 (f_X11_isAt v1 (kk_rd σ 2 v2) σ (fun (r_5 : Int32) =>
 ((r_5 = 0 → J_3 (0 : Int32)) ∧
 (¬ r_5 = 0 → J_4))))))))))))))
def f_X11_canBePart (v1 : Int32) (σ : kk_St) (Q : Int32 → Prop) : Prop :=
 (kk_lp1 (fun (rec_2 : Int32 → Prop) (v2_1 : Int32) =>
 ((v1 ≤ v2_1 → Q (1 : Int32)) ∧
 (¬ v1 ≤ v2_1 → (vp_in v2_1 10 ∧
 (vp_in v1 10 ∧
 (kk_j0 (rec_2 (v2_1 + (1 : Int32)))
 (fun (J_3 : Prop) => ((¬ (kk_rd σ 16 v2_1) = (kk_rd σ 16 v1) → J_3) ∧
 ((kk_rd σ 16 v2_1) = (kk_rd σ 16 v1) → (f_X11_doMeet v1 v2_1 σ (fun (r_4 : Int32) =>
 ((r_4 = 0 → J_3) ∧
 (¬ r_4 = 0 → Q (0 : Int32)))))))))))))) (0 : Int32))
def f_X11_fewestWays (v1 : Int32) (σ : kk_St) (Q : Int32 → Prop) : Prop :=
 (kk_lp2 (fun (rec_3 : Int32 → Int32 → Prop) (v2_1 : Int32) (v3_2 : Int32) =>
 (((σ.1 0 2) ≤ v3_2 → Q v2_1) ∧
 (¬ (σ.1 0 2) ≤ v3_2 → (f_X11_has v1 v3_2 (fun (r_4 : Int32) =>
 (kk_j1 (fun (v2_5 : Int32) => rec_3 v2_5 (v3_2 + (1 : Int32)))
 (fun (J_6 : Int32 → Prop) => ((r_4 = 0 → J_6 v2_1) ∧
 (¬ r_4 = 0 → (vp_in v3_2 20 ∧
 (((kk_rd σ 11 v3_2) < 0 → (kk_j0 (J_6 v3_2)
 (fun (J_7 : Prop) => ((v2_1 = (-1 : Int32) → J_7) ∧
 (¬ v2_1 = (-1 : Int32) → (f_X11_waysOf v3_2 σ (fun (r_8 : Int32) =>
 (f_X11_bitsOf r_8 (fun (r_9 : Int32) =>
 (f_X11_waysOf v2_1 σ (fun (r_10 : Int32) =>
 (f_X11_bitsOf r_10 (fun (r_11 : Int32) =>
 ((r_11 ≤ r_9 → J_6 v2_1) ∧
 (¬ r_11 ≤ r_9 → J_7))))))))))))))) ∧
 (¬ (kk_rd σ 11 v3_2) < 0 → J_6 v2_1)))))))))))) (-1 : Int32) (0 : Int32))
def f_X11_laysParts (v1 : Int32) (σ : kk_St) (Q : kk_St → Prop) : Prop :=
 (∀ σ_1 : kk_St, σ_1 = (kk_wr σ 0 23 (0 : Int32)) → (kk_lp3 (fun (rec_5 : Int32 → Int32 → kk_St → Prop) (v2_2 : Int32) (v3_3 : Int32) (σ_4 : kk_St) =>
 (((σ_4.1 0 1) ≤ v3_3 → Q σ_4) ∧
 (¬ (σ_4.1 0 1) ≤ v3_3 → (f_X11_has v2_2 v3_3 (fun (r_6 : Int32) =>
 (kk_j2 (fun (v2_7 : Int32) (σ_8 : kk_St) => rec_5 v2_7 (v3_3 + (1 : Int32)) σ_8)
 (fun (J_9 : Int32 → kk_St → Prop) => ((r_6 = 0 → (∀ v4_10 : Int32, v4_10 = ((1 : Int32) <<< (v3_3 &&& 31)) → (kk_lp2 (fun (rec_13 : Int32 → Int32 → Prop) (v4_11 : Int32) (v5_12 : Int32) =>
 ((v5_12 = v4_11 → (vp_in (σ_4.1 0 23) 9 ∧
 (∀ σ_14 : kk_St, σ_14 = (kk_wr σ_4 15 (Int32.toNatClampNeg (σ_4.1 0 23)) v4_11) → (∀ σ_15 : kk_St, σ_15 = (kk_wr σ_14 0 23 ((σ_14.1 0 23) + (1 : Int32))) → J_9 (v2_2 ||| v4_11) σ_15)))) ∧
 (¬ v5_12 = v4_11 → (kk_lp2 (fun (rec_18 : Int32 → Int32 → Prop) (v4_16 : Int32) (v6_17 : Int32) =>
 (((σ_4.1 0 2) ≤ v6_17 → rec_13 v4_16 v4_11) ∧
 (¬ (σ_4.1 0 2) ≤ v6_17 → (f_X11_has v1 v6_17 (fun (r_19 : Int32) =>
 (kk_j1 (fun (v4_20 : Int32) => rec_18 v4_20 (v6_17 + (1 : Int32)))
 (fun (J_21 : Int32 → Prop) => ((¬ r_19 = 0 → (vp_in v6_17 20 ∧
 (vp_in v6_17 20 ∧
 (∀ v7_22 : Int32, v7_22 = (((1 : Int32) <<< ((kk_rd σ_4 1 v6_17) &&& 31)) ||| ((1 : Int32) <<< ((kk_rd σ_4 2 v6_17) &&& 31))) → (((v4_16 &&& v7_22) = 0 → J_21 v4_16) ∧
 (¬ (v4_16 &&& v7_22) = 0 → J_21 (v4_16 ||| v7_22))))))) ∧
 (r_19 = 0 → J_21 v4_16))))))))) v4_11 (0 : Int32))))) v4_10 (0 : Int32)))) ∧
 (¬ r_6 = 0 → J_9 v2_2 σ_4))))))))) (0 : Int32) (0 : Int32) σ_1))
def f_X11_picks (v1 : Int32) (v2 : Int32) (σ : kk_St) (Q : kk_St → Prop) : Prop :=
 (vp_in v1 20 ∧
 (vp_in (kk_rd σ 1 v1) 9 ∧
 (vp_in (kk_rd σ 1 v1) 9 ∧
 (∀ σ_1 : kk_St, σ_1 = (kk_wr σ 12 (Int32.toNatClampNeg (kk_rd σ 1 v1)) ((kk_rd σ 12 (kk_rd σ 1 v1)) ^^^ ((1 : Int32) <<< (v2 &&& 31)))) → (vp_in v1 20 ∧
 (vp_in (kk_rd σ_1 2 v1) 9 ∧
 (vp_in (kk_rd σ_1 2 v1) 9 ∧
 (∀ σ_2 : kk_St, σ_2 = (kk_wr σ_1 12 (Int32.toNatClampNeg (kk_rd σ_1 2 v1)) ((kk_rd σ_1 12 (kk_rd σ_1 2 v1)) ^^^ ((1 : Int32) <<< (v2 &&& 31)))) → Q σ_2))))))))
def f_X11_triesOf (v1 : Int32) (σ : kk_St) (Q : Int32 → Prop) : Prop :=
 (f_X11_waysOf v1 σ (fun (r_1 : Int32) =>
 ((¬ (σ.1 0 17) = 0 → (kk_lp2 (fun (rec_4 : Int32 → Int32 → Prop) (v3_2 : Int32) (v4_3 : Int32) =>
 (((σ.1 0 1) ≤ v4_3 → (∀ v4_5 : Int32, v4_5 = (r_1 &&& (v3_2 ^^^ (-1 : Int32))) → Q ((r_1 &&& v3_2) ||| (v4_5 &&& (-v4_5))))) ∧
 (¬ (σ.1 0 1) ≤ v4_3 → (vp_in v4_3 9 ∧
 (∀ v3_6 : Int32, v3_6 = (v3_2 ||| (kk_rd σ 12 v4_3)) → rec_4 v3_6 (v4_3 + (1 : Int32))))))) (0 : Int32) (0 : Int32))) ∧
 ((σ.1 0 17) = 0 → Q r_1))))
def f_X11_canGoOn (v1 : Int32) (σ : kk_St) (Q : Int32 → kk_St → Prop) : Prop :=
 (kk_lp2 (fun (rec_3 : Int32 → kk_St → Prop) (v2_1 : Int32) (σ_2 : kk_St) =>
 (((9 : Int32) ≤ v2_1 → (kk_lp3 (fun (rec_7 : Int32 → Int32 → kk_St → Prop) (v2_4 : Int32) (v3_5 : Int32) (σ_6 : kk_St) =>
 (((σ_6.1 0 2) ≤ v3_5 → (f_X11_laysParts v1 σ_6 (fun (σ_8 : kk_St) =>
 (f_X11_fewestWays v1 σ_8 (fun (r_9 : Int32) =>
 (kk_j1 (fun (t_10 : Int32) => (kk_j0 ((kk_j1 (fun (σ_13 : kk_St) => (kk_j2 (fun (v5_15 : Int32) (σ_16 : kk_St) => (kk_lp2 (fun (rec_20 : Int32 → kk_St → Prop) (v6_18 : Int32) (σ_19 : kk_St) =>
 (((σ_19.1 0 2) ≤ v6_18 → ((v5_15 = 0 ∨ v5_15 = 1) ∧ Q v5_15 σ_19)) ∧
 (¬ (σ_19.1 0 2) ≤ v6_18 → (f_X11_has v2_4 v6_18 (fun (r_21 : Int32) =>
 (kk_j1 (fun (σ_22 : kk_St) => rec_20 (v6_18 + (1 : Int32)) σ_22)
 (fun (J_23 : kk_St → Prop) => ((¬ r_21 = 0 → J_23 σ_19) ∧
 (r_21 = 0 → (vp_in v6_18 20 ∧
 (∀ σ_24 : kk_St, σ_24 = (kk_wr σ_19 11 (Int32.toNatClampNeg v6_18) (-1 : Int32)) → J_23 σ_24))))))))))) (0 : Int32) σ_16))
 (fun (J_17 : Int32 → kk_St → Prop) => (kk_lp3 (fun (rec_30 : Int32 → Int32 → kk_St → Prop) (v3_27 : Int32) (v5_28 : Int32) (σ_29 : kk_St) =>
 ((¬ v5_28 = 0 → J_17 v5_28 σ_29) ∧
 (v5_28 = 0 → ((v3_27 < 0 → J_17 v5_28 σ_29) ∧
 (¬ v3_27 < 0 → (vp_in v3_27 20 ∧
 (vp_in (kk_rd σ_29 13 v3_27) 20 ∧
 (kk_j1 (fun (σ_31 : kk_St) => (vp_in (kk_rd σ_29 13 v3_27) 20 ∧
 (∀ σ_33 : kk_St, σ_33 = (kk_wr σ_31 11 (Int32.toNatClampNeg (kk_rd σ_29 13 v3_27)) (-1 : Int32)) → (vp_in v3_27 20 ∧
 ((¬ (kk_rd σ_33 14 v3_27) = 0 → (vp_in v3_27 20 ∧
 (f_X11_lowestOf (kk_rd σ_33 14 v3_27) (fun (r_34 : Int32) =>
 (vp_in (kk_rd σ_29 13 v3_27) 20 ∧
 (∀ σ_35 : kk_St, σ_35 = (kk_wr σ_33 11 (Int32.toNatClampNeg (kk_rd σ_29 13 v3_27)) r_34) → (vp_in v3_27 20 ∧
 (vp_in v3_27 20 ∧
 (vp_in v3_27 20 ∧
 (∀ σ_36 : kk_St, σ_36 = (kk_wr σ_35 14 (Int32.toNatClampNeg v3_27) ((kk_rd σ_35 14 v3_27) &&& ((kk_rd σ_35 14 v3_27) - (1 : Int32)))) → (vp_in (kk_rd σ_29 13 v3_27) 20 ∧
 (f_X11_picks (kk_rd σ_29 13 v3_27) (kk_rd σ_36 11 (kk_rd σ_29 13 v3_27)) σ_36 (fun (σ_37 : kk_St) =>
 (f_X11_fewestWays v1 σ_37 (fun (r_38 : Int32) =>
 (kk_j1 (fun (t_39 : Int32) => ((¬ t_39 = 0 → rec_30 v3_27 t_39 σ_37) ∧
 (t_39 = 0 → (f_X11_waysOf r_38 σ_37 (fun (r_41 : Int32) =>
 ((r_41 = 0 → rec_30 v3_27 t_39 σ_37) ∧
 (¬ r_41 = 0 → (f_X11_canBeEnough v1 σ_37 (fun (r_42 : Int32) =>
 ((¬ r_42 = 0 → (vp_in (v3_27 + (1 : Int32)) 20 ∧
 (∀ σ_43 : kk_St, σ_43 = (kk_wr σ_37 13 (Int32.toNatClampNeg (v3_27 + (1 : Int32))) r_38) → (f_X11_triesOf r_38 σ_43 (fun (r_44 : Int32) =>
 (vp_in (v3_27 + (1 : Int32)) 20 ∧
 (∀ σ_45 : kk_St, σ_45 = (kk_wr σ_43 14 (Int32.toNatClampNeg (v3_27 + (1 : Int32))) r_44) → rec_30 (v3_27 + (1 : Int32)) t_39 σ_45))))))) ∧
 (r_42 = 0 → rec_30 v3_27 t_39 σ_37)))))))))))
 (fun (J_40 : Int32 → Prop) => ((¬ r_38 = (-1 : Int32) → J_40 (0 : Int32)) ∧
 (r_38 = (-1 : Int32) → J_40 (1 : Int32)))))))))))))))))))) ∧
 ((kk_rd σ_33 14 v3_27) = 0 → rec_30 (v3_27 + (-1 : Int32)) v5_28 σ_33))))))
 (fun (J_32 : kk_St → Prop) => (((kk_rd σ_29 11 (kk_rd σ_29 13 v3_27)) < 0 → J_32 σ_29) ∧
 (¬ (kk_rd σ_29 11 (kk_rd σ_29 13 v3_27)) < 0 → (vp_in (kk_rd σ_29 13 v3_27) 20 ∧
 (f_X11_picks (kk_rd σ_29 13 v3_27) (kk_rd σ_29 11 (kk_rd σ_29 13 v3_27)) σ_29 (fun (σ_51 : kk_St) =>
 J_32 σ_51)))))))))))))) (0 : Int32) t_10 σ_13))))
 (fun (J_14 : kk_St → Prop) => ((¬ t_10 = 0 → J_14 σ_8) ∧
 (t_10 = 0 → (vp_in (0 : Int32) 20 ∧
 (∀ σ_55 : kk_St, σ_55 = (kk_wr σ_8 13 (Int32.toNatClampNeg (0 : Int32)) r_9) → (f_X11_triesOf r_9 σ_55 (fun (r_56 : Int32) =>
 (vp_in (0 : Int32) 20 ∧
 (∀ σ_57 : kk_St, σ_57 = (kk_wr σ_55 14 (Int32.toNatClampNeg (0 : Int32)) r_56) → J_14 σ_57)))))))))))
 (fun (J_12 : Prop) => ((¬ t_10 = 0 → J_12) ∧
 (t_10 = 0 → (f_X11_canBeEnough v1 σ_8 (fun (r_59 : Int32) =>
 ((¬ r_59 = 0 → J_12) ∧
 (r_59 = 0 → Q (0 : Int32) σ_8)))))))))
 (fun (J_11 : Int32 → Prop) => ((¬ r_9 = (-1 : Int32) → J_11 (0 : Int32)) ∧
 (r_9 = (-1 : Int32) → J_11 (1 : Int32)))))))))) ∧
 (¬ (σ_6.1 0 2) ≤ v3_5 → (f_X11_has v1 v3_5 (fun (r_63 : Int32) =>
 (kk_j2 (fun (v2_64 : Int32) (σ_65 : kk_St) => rec_7 v2_64 (v3_5 + (1 : Int32)) σ_65)
 (fun (J_66 : Int32 → kk_St → Prop) => ((r_63 = 0 → J_66 v2_4 σ_6) ∧
 (¬ r_63 = 0 → (vp_in v3_5 20 ∧
 ((0 ≤ (kk_rd σ_6 11 v3_5) → (f_X11_waysOf v3_5 σ_6 (fun (r_67 : Int32) =>
 (vp_in v3_5 20 ∧
 (f_X11_has r_67 (kk_rd σ_6 11 v3_5) (fun (r_68 : Int32) =>
 ((¬ r_68 = 0 → (vp_in v3_5 20 ∧
 (f_X11_picks v3_5 (kk_rd σ_6 11 v3_5) σ_6 (fun (σ_69 : kk_St) =>
 (∀ v2_70 : Int32, v2_70 = (v2_4 ||| ((1 : Int32) <<< (v3_5 &&& 31))) → J_66 v2_70 σ_69))))) ∧
 (r_68 = 0 → Q (0 : Int32) σ_6)))))))) ∧
 (¬ 0 ≤ (kk_rd σ_6 11 v3_5) → J_66 v2_4 σ_6)))))))))))) (0 : Int32) (0 : Int32) σ_2)) ∧
 (¬ (9 : Int32) ≤ v2_1 → (vp_in v2_1 9 ∧
 (∀ σ_75 : kk_St, σ_75 = (kk_wr σ_2 12 (Int32.toNatClampNeg v2_1) (0 : Int32)) → rec_3 (v2_1 + (1 : Int32)) σ_75))))) (0 : Int32) σ)
def f_X11_chainIn (a1 : Nat) (n1 : Nat) (v2 : Int32) (v3 : Int32) (v4 : Int32) (σ : kk_St) (Q : Int32 → kk_St → Prop) : Prop :=
 (∀ σ_1 : kk_St, σ_1 = (kk_wr σ 0 9 ((1 : Int32) <<< (v2 &&& 31))) → (kk_lp3 (fun (rec_5 : Int32 → Int32 → kk_St → Prop) (v5_2 : Int32) (v6_3 : Int32) (σ_4 : kk_St) =>
 ((v6_3 = v5_2 → Q v5_2 σ_4) ∧
 (¬ v6_3 = v5_2 → (kk_lp3 (fun (rec_9 : Int32 → Int32 → kk_St → Prop) (v5_6 : Int32) (v7_7 : Int32) (σ_8 : kk_St) =>
 (((σ_8.1 0 2) ≤ v7_7 → rec_5 v5_6 v5_2 σ_8) ∧
 (¬ (σ_8.1 0 2) ≤ v7_7 → (vp_in v7_7 n1 ∧
 (kk_j2 (fun (v5_10 : Int32) (σ_11 : kk_St) => rec_9 v5_10 (v7_7 + (1 : Int32)) σ_11)
 (fun (J_12 : Int32 → kk_St → Prop) => (kk_j0 ((vp_in v7_7 20 ∧
 (f_X11_has (σ_8.1 0 9) (kk_rd σ_8 1 v7_7) (fun (r_14 : Int32) =>
 (kk_j0 ((∀ v5_16 : Int32, v5_16 = (v5_6 ||| ((1 : Int32) <<< (v7_7 &&& 31))) → (vp_in v7_7 20 ∧
 (vp_in v7_7 20 ∧
 (∀ σ_17 : kk_St, σ_17 = (kk_wr σ_8 0 9 ((σ_8.1 0 9) ||| (((1 : Int32) <<< ((kk_rd σ_8 1 v7_7) &&& 31)) ||| ((1 : Int32) <<< ((kk_rd σ_8 2 v7_7) &&& 31))))) → J_12 v5_16 σ_17)))))
 (fun (J_15 : Prop) => ((¬ r_14 = 0 → J_15) ∧
 (r_14 = 0 → (vp_in v7_7 20 ∧
 (f_X11_has (σ_8.1 0 9) (kk_rd σ_8 2 v7_7) (fun (r_18 : Int32) =>
 ((¬ r_18 = 0 → J_15) ∧
 (r_18 = 0 → J_12 v5_6 σ_8)))))))))))))
 (fun (J_13 : Prop) => (((kk_rd σ_8 a1 v7_7) = v3 → J_13) ∧
 (¬ (kk_rd σ_8 a1 v7_7) = v3 → (vp_in v7_7 n1 ∧
 ((¬ (kk_rd σ_8 a1 v7_7) = v4 → J_12 v5_6 σ_8) ∧
 ((kk_rd σ_8 a1 v7_7) = v4 → J_13))))))))))))) v5_2 (0 : Int32) σ_4)))) (0 : Int32) (-1 : Int32) σ_1))
def f_X11_isPost (v1 : Int32) (σ : kk_St) (Q : Int32 → Prop) : Prop :=
 (f_X11_in v1 (0 : Int32) ((σ.1 0 1) - (1 : Int32)) (fun (r_1 : Int32) =>
 ((r_1 = 0 ∨ r_1 = 1) ∧ Q r_1)))
def f_X11_isChain (v1 : Int32) (v2 : Int32) (v3 : Int32) (σ : kk_St) (Q : Int32 → Prop) : Prop :=
 (f_X11_isPost v1 σ (fun (r_1 : Int32) =>
 (kk_j1 (fun (t_2 : Int32) => ((t_2 = 0 ∨ t_2 = 1) ∧ Q t_2))
 (fun (J_3 : Int32 → Prop) => (kk_j0 (J_3 (0 : Int32))
 (fun (J_4 : Prop) => ((r_1 = 0 → J_4) ∧
 (¬ r_1 = 0 → (f_X11_areColours v2 v3 σ (fun (r_5 : Int32) =>
 ((r_5 = 0 → J_4) ∧
 (¬ r_5 = 0 → J_3 (1 : Int32)))))))))))))
def f_X11_chain (v1 : Int32) (v2 : Int32) (v3 : Int32) (v4 : Int32) (σ : kk_St) (Q : Int32 → kk_St → Prop) : Prop :=
 (f_X11_isChain v1 v2 v3 σ (fun (r_1 : Int32) =>
 ((¬ r_1 = 0 → (f_X11_chainIn 3 20 v1 v2 v3 σ (fun (r_2 : Int32) (σ_3 : kk_St) =>
 (f_X11_manyWith r_2 v2 σ_3 (fun (r_4 : Int32) =>
 (f_X11_manyWith r_2 v3 σ_3 (fun (r_5 : Int32) =>
 ((v4 = nI 0 → Q r_2 σ_3) ∧
 (v4 = nI 1 → Q (σ_3.1 0 9) σ_3) ∧
 (v4 = nI 2 → (kk_j1 (fun (t_6 : Int32) => Q t_6 σ_3)
 (fun (J_7 : Int32 → Prop) => (kk_j0 (J_7 (0 : Int32))
 (fun (J_8 : Prop) => ((r_2 = 0 → J_8) ∧
 (¬ r_2 = 0 → (f_X11_bitsOf r_2 (fun (r_9 : Int32) =>
 (f_X11_bitsOf (σ_3.1 0 9) (fun (r_10 : Int32) =>
 ((¬ r_9 = r_10 → J_8) ∧
 (r_9 = r_10 → J_7 (1 : Int32)))))))))))))) ∧
 (v4 = nI 3 → (kk_j1 (fun (t_13 : Int32) => Q t_13 σ_3)
 (fun (J_14 : Int32 → Prop) => ((r_4 ≤ r_5 → ((r_5 ≤ r_4 → J_14 (0 : Int32)) ∧
 (¬ r_5 ≤ r_4 → J_14 (-1 : Int32)))) ∧
 (¬ r_4 ≤ r_5 → J_14 (1 : Int32)))))) ∧
 (v4.toInt < 0 ∨ (4 : Int) ≤ v4.toInt → Q (-2 : Int32) σ_3))))))))) ∧
 (r_1 = 0 → Q (-1 : Int32) σ))))
def f_X11_chains (v1 : Int32) (v2 : Int32) (σ : kk_St) (Q : Int32 → kk_St → Prop) : Prop :=
 (f_X11_areColours v1 v2 σ (fun (r_1 : Int32) =>
 ((¬ r_1 = 0 → (kk_lp4 (fun (rec_6 : Int32 → Int32 → Int32 → kk_St → Prop) (v3_2 : Int32) (v4_3 : Int32) (v5_4 : Int32) (σ_5 : kk_St) =>
 (((σ_5.1 0 2) ≤ v5_4 → Q v4_3 σ_5) ∧
 (¬ (σ_5.1 0 2) ≤ v5_4 → (f_X11_has v3_2 v5_4 (fun (r_7 : Int32) =>
 (kk_j3 (fun (v3_8 : Int32) (v4_9 : Int32) (σ_10 : kk_St) => rec_6 v3_8 v4_9 (v5_4 + (1 : Int32)) σ_10)
 (fun (J_11 : Int32 → Int32 → kk_St → Prop) => ((¬ r_7 = 0 → J_11 v3_2 v4_3 σ_5) ∧
 (r_7 = 0 → (vp_in v5_4 20 ∧
 (kk_j0 ((vp_in v5_4 20 ∧
 (f_X11_chainIn 3 20 (kk_rd σ_5 1 v5_4) v1 v2 σ_5 (fun (r_13 : Int32) (σ_14 : kk_St) =>
 J_11 (v3_2 ||| r_13) (v4_3 + (1 : Int32)) σ_14))))
 (fun (J_12 : Prop) => (((kk_rd σ_5 3 v5_4) = v1 → J_12) ∧
 (¬ (kk_rd σ_5 3 v5_4) = v1 → (vp_in v5_4 20 ∧
 (((kk_rd σ_5 3 v5_4) = v2 → J_12) ∧
 (¬ (kk_rd σ_5 3 v5_4) = v2 → J_11 v3_2 v4_3 σ_5))))))))))))))))) (0 : Int32) (0 : Int32) (0 : Int32) σ)) ∧
 (r_1 = 0 → Q (-1 : Int32) σ))))
def f_X11_lineWith (v1 : Int32) (v2 : Int32) (σ : kk_St) (Q : Int32 → Prop) : Prop :=
 (kk_lp1 (fun (rec_2 : Int32 → Prop) (v3_1 : Int32) =>
 (((σ.1 0 2) ≤ v3_1 → Q (-1 : Int32)) ∧
 (¬ (σ.1 0 2) ≤ v3_1 → (f_X11_isAt v3_1 v1 σ (fun (r_3 : Int32) =>
 (kk_j0 (rec_2 (v3_1 + (1 : Int32)))
 (fun (J_4 : Prop) => ((r_3 = 0 → J_4) ∧
 (¬ r_3 = 0 → (vp_in v3_1 20 ∧
 ((¬ (kk_rd σ 3 v3_1) = v2 → J_4) ∧
 ((kk_rd σ 3 v3_1) = v2 → Q v3_1)))))))))))) (0 : Int32))
def f_X11_clash (v1 : Int32) (v2 : Int32) (σ : kk_St) (Q : Int32 → Prop) : Prop :=
 (f_X11_isLine v1 σ (fun (r_1 : Int32) =>
 (kk_j0 (Q (-1 : Int32))
 (fun (J_2 : Prop) => ((r_1 = 0 → J_2) ∧
 (¬ r_1 = 0 → (f_X11_isColour v2 σ (fun (r_3 : Int32) =>
 ((¬ r_3 = 0 → (vp_in v1 20 ∧
 ((¬ (kk_rd σ 3 v1) = v2 → (vp_in v1 20 ∧
 (f_X11_lineWith (kk_rd σ 1 v1) v2 σ (fun (r_4 : Int32) =>
 ((r_4 = (-1 : Int32) → (vp_in v1 20 ∧
 (f_X11_lineWith (kk_rd σ 2 v1) v2 σ (fun (r_5 : Int32) =>
 (kk_j1 (fun (t_6 : Int32) => Q t_6)
 (fun (J_7 : Int32 → Prop) => ((r_5 = (-1 : Int32) → J_7 (-2 : Int32)) ∧
 (¬ r_5 = (-1 : Int32) → J_7 r_5)))))))) ∧
 (¬ r_4 = (-1 : Int32) → Q r_4)))))) ∧
 ((kk_rd σ 3 v1) = v2 → Q v1)))) ∧
 (r_3 = 0 → J_2))))))))))
def f_X11_codeOf (a1 : Nat) (n1 : Nat) (v2 : Int32) (σ : kk_St) (Q : Int32 → Prop) : Prop :=
 (kk_lp2 (fun (rec_3 : Int32 → Int32 → Prop) (v3_1 : Int32) (v4_2 : Int32) =>
 ((v4_2 < 0 → Q v3_1) ∧
 (¬ v4_2 < 0 → (vp_in v4_2 n1 ∧
 (∀ v3_4 : Int32, v3_4 = ((v2 * v3_1) + (kk_rd σ a1 v4_2)) → rec_3 v3_4 (v4_2 + (-1 : Int32))))))) (0 : Int32) ((σ.1 0 2) - (1 : Int32)))
def f_X11_codes (v1 : Int32) (σ : kk_St) (Q : Int32 → Prop) : Prop :=
 (kk_lp2 (fun (rec_3 : Int32 → Int32 → Prop) (v2_1 : Int32) (v3_2 : Int32) =>
 (((σ.1 0 2) ≤ v3_2 → Q v2_1) ∧
 (¬ (σ.1 0 2) ≤ v3_2 → rec_3 (v2_1 * v1) (v3_2 + (1 : Int32))))) (1 : Int32) (0 : Int32))
def f_X11_isFreeAt (v1 : Int32) (v2 : Int32) (σ : kk_St) (Q : Int32 → Prop) : Prop :=
 (f_X11_lineWith v1 v2 σ (fun (r_1 : Int32) =>
 (kk_j1 (fun (t_2 : Int32) => ((t_2 = 0 ∨ t_2 = 1) ∧ Q t_2))
 (fun (J_3 : Int32 → Prop) => ((¬ r_1 = (-1 : Int32) → J_3 (0 : Int32)) ∧
 (r_1 = (-1 : Int32) → J_3 (1 : Int32)))))))
def f_X11_colour (v1 : Int32) (v2 : Int32) (σ : kk_St) (Q : Int32 → Prop) : Prop :=
 (f_X11_isColour v1 σ (fun (r_1 : Int32) =>
 ((¬ r_1 = 0 → ((v2 = nI 0 → (f_X11_allLines σ (fun (r_2 : Int32) =>
 (f_X11_manyWith r_2 v1 σ (fun (r_3 : Int32) =>
 Q r_3))))) ∧
 (v2 = nI 1 → (kk_lp2 (fun (rec_6 : Int32 → Int32 → Prop) (v3_4 : Int32) (v4_5 : Int32) =>
 (((σ.1 0 2) ≤ v4_5 → Q v3_4) ∧
 (¬ (σ.1 0 2) ≤ v4_5 → (vp_in v4_5 20 ∧
 (kk_j1 (fun (v3_7 : Int32) => rec_6 v3_7 (v4_5 + (1 : Int32)))
 (fun (J_8 : Int32 → Prop) => ((¬ (kk_rd σ 3 v4_5) = v1 → J_8 v3_4) ∧
 ((kk_rd σ 3 v4_5) = v1 → (∀ v3_9 : Int32, v3_9 = (v3_4 ||| ((1 : Int32) <<< (v4_5 &&& 31))) → J_8 v3_9))))))))) (0 : Int32) (0 : Int32))) ∧
 (v2 = nI 2 → (kk_lp2 (fun (rec_14 : Int32 → Int32 → Prop) (v3_12 : Int32) (v4_13 : Int32) =>
 (((σ.1 0 1) ≤ v4_13 → Q v3_12) ∧
 (¬ (σ.1 0 1) ≤ v4_13 → (f_X11_isFreeAt v4_13 v1 σ (fun (r_15 : Int32) =>
 (kk_j1 (fun (v3_16 : Int32) => rec_14 v3_16 (v4_13 + (1 : Int32)))
 (fun (J_17 : Int32 → Prop) => ((r_15 = 0 → J_17 v3_12) ∧
 (¬ r_15 = 0 → (∀ v3_18 : Int32, v3_18 = (v3_12 ||| ((1 : Int32) <<< (v4_13 &&& 31))) → J_17 v3_18)))))))))) (0 : Int32) (0 : Int32))) ∧
 (v2.toInt < 0 ∨ (3 : Int) ≤ v2.toInt → Q (-1 : Int32)))) ∧
 (r_1 = 0 → Q (-1 : Int32)))))
def f_X11_free (v1 : Int32) (σ : kk_St) (Q : Int32 → Prop) : Prop :=
 (f_X11_isLine v1 σ (fun (r_1 : Int32) =>
 ((¬ r_1 = 0 → (f_X11_degree σ (fun (r_2 : Int32) =>
 (vp_in v1 20 ∧
 (f_X11_usedAt (kk_rd σ 1 v1) σ (fun (r_3 : Int32) =>
 (vp_in v1 20 ∧
 (f_X11_usedAt (kk_rd σ 2 v1) σ (fun (r_4 : Int32) =>
 Q (((((1 : Int32) <<< ((r_2 + (1 : Int32)) &&& 31)) - (1 : Int32)) &&& (r_3 ^^^ (-1 : Int32))) &&& (r_4 ^^^ (-1 : Int32)))))))))))) ∧
 (r_1 = 0 → Q (-1 : Int32)))))
def f_X11_easyMany (σ : kk_St) (Q : Int32 → Prop) : Prop :=
 (kk_lp2 (fun (rec_3 : Int32 → Int32 → Prop) (v1_1 : Int32) (v2_2 : Int32) =>
 (((σ.1 0 2) ≤ v2_2 → Q v1_1) ∧
 (¬ (σ.1 0 2) ≤ v2_2 → (vp_in v2_2 20 ∧
 (kk_j1 (fun (v1_4 : Int32) => rec_3 v1_4 (v2_2 + (1 : Int32)))
 (fun (J_5 : Int32 → Prop) => ((0 ≤ (kk_rd σ 3 v2_2) → J_5 v1_1) ∧
 (¬ 0 ≤ (kk_rd σ 3 v2_2) → (f_X11_degree σ (fun (r_6 : Int32) =>
 (f_X11_free v2_2 σ (fun (r_7 : Int32) =>
 ((((((1 : Int32) <<< (r_6 &&& 31)) - (1 : Int32)) &&& r_7) = 0 → J_5 v1_1) ∧
 (¬ ((((1 : Int32) <<< (r_6 &&& 31)) - (1 : Int32)) &&& r_7) = 0 → J_5 (v1_1 + (1 : Int32)))))))))))))))) (0 : Int32) (0 : Int32))
def f_X11_greatestUsed (σ : kk_St) (Q : Int32 → Prop) : Prop :=
 (kk_lp2 (fun (rec_3 : Int32 → Int32 → Prop) (v1_1 : Int32) (v2_2 : Int32) =>
 (((σ.1 0 2) ≤ v2_2 → Q v1_1) ∧
 (¬ (σ.1 0 2) ≤ v2_2 → (vp_in v2_2 20 ∧
 (kk_j1 (fun (v1_4 : Int32) => rec_3 v1_4 (v2_2 + (1 : Int32)))
 (fun (J_5 : Int32 → Prop) => (((kk_rd σ 3 v2_2) ≤ v1_1 → J_5 v1_1) ∧
 (¬ (kk_rd σ 3 v2_2) ≤ v1_1 → (vp_in v2_2 20 ∧
 J_5 (kk_rd σ 3 v2_2)))))))))) (-1 : Int32) (0 : Int32))
def f_X11_uneven (σ : kk_St) (Q : Int32 → Prop) : Prop :=
 (kk_lp3 (fun (rec_4 : Int32 → Int32 → Int32 → Prop) (v1_1 : Int32) (v2_2 : Int32) (v3_3 : Int32) =>
 (f_X11_greatestUsed σ (fun (r_5 : Int32) =>
 ((r_5 < v3_3 → (kk_j1 (fun (t_6 : Int32) => Q t_6)
 (fun (J_7 : Int32 → Prop) => ((¬ v1_1 = 0 → J_7 (v1_1 - v2_2)) ∧
 (v1_1 = 0 → J_7 (0 : Int32)))))) ∧
 (¬ r_5 < v3_3 → (f_X11_allLines σ (fun (r_9 : Int32) =>
 (f_X11_manyWith r_9 v3_3 σ (fun (r_10 : Int32) =>
 (kk_j2 (fun (v1_11 : Int32) (v2_12 : Int32) => rec_4 v1_11 v2_12 (v3_3 + (1 : Int32)))
 (fun (J_13 : Int32 → Int32 → Prop) => ((¬ r_10 = 0 → (kk_j1 (fun (v1_14 : Int32) => ((v2_2 ≤ r_10 → J_13 v1_14 v2_2) ∧
 (¬ v2_2 ≤ r_10 → J_13 v1_14 r_10)))
 (fun (J_15 : Int32 → Prop) => ((r_10 ≤ v1_1 → J_15 v1_1) ∧
 (¬ r_10 ≤ v1_1 → J_15 r_10))))) ∧
 (r_10 = 0 → J_13 v1_1 v2_2))))))))))))) (0 : Int32) (21 : Int32) (0 : Int32))
def f_X11_usedColours (σ : kk_St) (Q : Int32 → Prop) : Prop :=
 (kk_lp2 (fun (rec_3 : Int32 → Int32 → Prop) (v1_1 : Int32) (v2_2 : Int32) =>
 (f_X11_greatestUsed σ (fun (r_4 : Int32) =>
 ((r_4 < v2_2 → Q v1_1) ∧
 (¬ r_4 < v2_2 → (f_X11_allLines σ (fun (r_5 : Int32) =>
 (f_X11_manyWith r_5 v2_2 σ (fun (r_6 : Int32) =>
 (kk_j1 (fun (v1_7 : Int32) => rec_3 v1_7 (v2_2 + (1 : Int32)))
 (fun (J_8 : Int32 → Prop) => ((r_6 ≤ 0 → J_8 v1_1) ∧
 (¬ r_6 ≤ 0 → J_8 (v1_1 + (1 : Int32))))))))))))))) (0 : Int32) (0 : Int32))
def f_X11_count (v1 : Int32) (σ : kk_St) (Q : Int32 → Prop) : Prop :=
 ((v1 = nI 0 → Q (σ.1 0 1)) ∧
 (v1 = nI 1 → Q (σ.1 0 2)) ∧
 (v1 = nI 2 → (f_X11_degree σ (fun (r_1 : Int32) =>
 Q r_1))) ∧
 (v1 = nI 3 → (f_X11_bareMany σ (fun (r_2 : Int32) =>
 Q r_2))) ∧
 (v1 = nI 4 → (f_X11_usedColours σ (fun (r_3 : Int32) =>
 Q r_3))) ∧
 (v1 = nI 5 → (f_X11_uneven σ (fun (r_4 : Int32) =>
 Q r_4))) ∧
 (v1 = nI 6 → (kk_j1 (fun (t_5 : Int32) => Q t_5)
 (fun (J_6 : Int32 → Prop) => (((σ.1 0 8) = 0 → J_6 (0 : Int32)) ∧
 (¬ (σ.1 0 8) = 0 → J_6 (1 : Int32)))))) ∧
 (v1 = nI 7 → (f_X11_easyMany σ (fun (r_8 : Int32) =>
 Q r_8))) ∧
 (v1.toInt < 0 ∨ (8 : Int) ≤ v1.toInt → Q (-1 : Int32)))
def f_X11_picksFirst (v1 : Int32) (σ : kk_St) (Q : Int32 → kk_St → Prop) : Prop :=
 (kk_lp2 (fun (rec_3 : Int32 → kk_St → Prop) (v2_1 : Int32) (σ_2 : kk_St) =>
 (((20 : Int32) ≤ v2_1 → (f_X11_canGoOn v1 σ_2 (fun (r_4 : Int32) (σ_5 : kk_St) =>
 ((¬ r_4 = 0 → (kk_lp2 (fun (rec_8 : Int32 → kk_St → Prop) (v2_6 : Int32) (σ_7 : kk_St) =>
 (((σ_7.1 0 2) ≤ v2_6 → Q (1 : Int32) σ_7) ∧
 (¬ (σ_7.1 0 2) ≤ v2_6 → (f_X11_has v1 v2_6 (fun (r_9 : Int32) =>
 (kk_j1 (fun (σ_10 : kk_St) => rec_8 (v2_6 + (1 : Int32)) σ_10)
 (fun (J_11 : kk_St → Prop) => ((¬ r_9 = 0 → (vp_in v2_6 20 ∧
 (kk_lp3 (fun (rec_15 : Int32 → Int32 → kk_St → Prop) (v3_12 : Int32) (v4_13 : Int32) (σ_14 : kk_St) =>
 ((¬ v4_13 = 0 → J_11 σ_14) ∧
 (v4_13 = 0 → (f_X11_lowestOf v3_12 (fun (r_16 : Int32) =>
 (vp_in v2_6 20 ∧
 (∀ σ_17 : kk_St, σ_17 = (kk_wr σ_14 11 (Int32.toNatClampNeg v2_6) r_16) → (∀ v3_18 : Int32, v3_18 = (v3_12 &&& (v3_12 - (1 : Int32))) → (f_X11_canGoOn v1 σ_17 (fun (r_19 : Int32) (σ_20 : kk_St) =>
 rec_15 v3_18 r_19 σ_20)))))))))) (kk_rd σ_7 10 v2_6) (0 : Int32) σ_7))) ∧
 (r_9 = 0 → J_11 σ_7))))))))) (0 : Int32) σ_5)) ∧
 (r_4 = 0 → Q (0 : Int32) σ_5))))) ∧
 (¬ (20 : Int32) ≤ v2_1 → (vp_in v2_1 20 ∧
 (∀ σ_25 : kk_St, σ_25 = (kk_wr σ_2 11 (Int32.toNatClampNeg v2_1) (-1 : Int32)) → rec_3 (v2_1 + (1 : Int32)) σ_25))))) (0 : Int32) σ)
def f_X11_laysFirst (v1 : Int32) (v2 : Int32) (σ : kk_St) (Q : Int32 → kk_St → Prop) : Prop :=
 (f_X11_degreeOf v1 σ (fun (r_1 : Int32) =>
 ((r_1 ≤ v2 → (kk_lp2 (fun (rec_4 : Int32 → kk_St → Prop) (v3_2 : Int32) (σ_3 : kk_St) =>
 (((20 : Int32) ≤ v3_2 → (∀ σ_5 : kk_St, σ_5 = (kk_wr σ_3 0 17 (1 : Int32)) → (f_X11_picksFirst v1 σ_5 (fun (r_6 : Int32) (σ_7 : kk_St) =>
 ((r_6 = 0 ∨ r_6 = 1) ∧ Q r_6 σ_7))))) ∧
 (¬ (20 : Int32) ≤ v3_2 → (vp_in v3_2 20 ∧
 (∀ σ_8 : kk_St, σ_8 = (kk_wr σ_3 10 (Int32.toNatClampNeg v3_2) (((1 : Int32) <<< (v2 &&& 31)) - (1 : Int32))) → rec_4 (v3_2 + (1 : Int32)) σ_8))))) (0 : Int32) σ)) ∧
 (¬ r_1 ≤ v2 → Q (0 : Int32) σ))))
def f_X11_indexOf (v1 : Int32) (σ : kk_St) (Q : Int32 → kk_St → Prop) : Prop :=
 (f_X11_degreeOf v1 σ (fun (r_1 : Int32) =>
 (f_X11_laysFirst v1 r_1 σ (fun (r_2 : Int32) (σ_3 : kk_St) =>
 (kk_j1 (fun (t_4 : Int32) => Q t_4 σ_3)
 (fun (J_5 : Int32 → Prop) => ((r_2 = 0 → J_5 (r_1 + (1 : Int32))) ∧
 (¬ r_2 = 0 → J_5 r_1))))))))
def f_X11_index (σ : kk_St) (Q : Int32 → kk_St → Prop) : Prop :=
 (f_X11_allLines σ (fun (r_1 : Int32) =>
 (f_X11_indexOf r_1 σ (fun (r_2 : Int32) (σ_3 : kk_St) =>
 Q r_2 σ_3))))
def f_X11_critical (σ : kk_St) (Q : Int32 → kk_St → Prop) : Prop :=
 (f_X11_index σ (fun (r_1 : Int32) (σ_2 : kk_St) =>
 (kk_lp3 (fun (rec_6 : Int32 → Int32 → kk_St → Prop) (v2_3 : Int32) (v3_4 : Int32) (σ_5 : kk_St) =>
 (((σ_5.1 0 2) ≤ v3_4 → Q v2_3 σ_5) ∧
 (¬ (σ_5.1 0 2) ≤ v3_4 → (f_X11_allLines σ_5 (fun (r_7 : Int32) =>
 (f_X11_indexOf (r_7 &&& (((1 : Int32) <<< (v3_4 &&& 31)) ^^^ (-1 : Int32))) σ_5 (fun (r_8 : Int32) (σ_9 : kk_St) =>
 (kk_j1 (fun (v2_10 : Int32) => rec_6 v2_10 (v3_4 + (1 : Int32)) σ_9)
 (fun (J_11 : Int32 → Prop) => ((r_1 ≤ r_8 → J_11 v2_3) ∧
 (¬ r_1 ≤ r_8 → (∀ v2_12 : Int32, v2_12 = (v2_3 ||| ((1 : Int32) <<< (v3_4 &&& 31))) → J_11 v2_12)))))))))))) (0 : Int32) (0 : Int32) σ_2)))
def f_X11_flips (a0 : Nat) (n0 : Nat) (v1 : Int32) (v2 : Int32) (v3 : Int32) (σ : kk_St) (Q : kk_St → Prop) : Prop :=
 (kk_lp2 (fun (rec_3 : Int32 → kk_St → Prop) (v4_1 : Int32) (σ_2 : kk_St) =>
 (((20 : Int32) ≤ v4_1 → Q σ_2) ∧
 (¬ (20 : Int32) ≤ v4_1 → (f_X11_has v1 v4_1 (fun (r_4 : Int32) =>
 (kk_j1 (fun (σ_5 : kk_St) => rec_3 (v4_1 + (1 : Int32)) σ_5)
 (fun (J_6 : kk_St → Prop) => ((r_4 = 0 → J_6 σ_2) ∧
 (¬ r_4 = 0 → (vp_in v4_1 n0 ∧
 (vp_in v4_1 n0 ∧
 (∀ σ_7 : kk_St, σ_7 = (kk_wr σ_2 a0 (Int32.toNatClampNeg v4_1) ((v2 + v3) - (kk_rd σ_2 a0 v4_1))) → J_6 σ_7)))))))))))) (0 : Int32) σ)
def f_X11_longerChain (v1 : Int32) (v2 : Int32) (σ : kk_St) (Q : Int32 → kk_St → Prop) : Prop :=
 (kk_lp2 (fun (rec_3 : Int32 → kk_St → Prop) (v3_1 : Int32) (σ_2 : kk_St) =>
 (((σ_2.1 0 2) ≤ v3_1 → Q (0 : Int32) σ_2) ∧
 (¬ (σ_2.1 0 2) ≤ v3_1 → (vp_in v3_1 20 ∧
 (kk_j1 (fun (σ_4 : kk_St) => rec_3 (v3_1 + (1 : Int32)) σ_4)
 (fun (J_5 : kk_St → Prop) => (kk_j0 ((vp_in v3_1 20 ∧
 (f_X11_chainIn 3 20 (kk_rd σ_2 1 v3_1) v1 v2 σ_2 (fun (r_7 : Int32) (σ_8 : kk_St) =>
 (f_X11_manyWith r_7 v1 σ_8 (fun (r_9 : Int32) =>
 (f_X11_manyWith r_7 v2 σ_8 (fun (r_10 : Int32) =>
 ((r_9 ≤ r_10 → J_5 σ_8) ∧
 (¬ r_9 ≤ r_10 → Q r_7 σ_8))))))))))
 (fun (J_6 : Prop) => (((kk_rd σ_2 3 v3_1) = v1 → J_6) ∧
 (¬ (kk_rd σ_2 3 v3_1) = v1 → (vp_in v3_1 20 ∧
 (((kk_rd σ_2 3 v3_1) = v2 → J_6) ∧
 (¬ (kk_rd σ_2 3 v3_1) = v2 → J_5 σ_2))))))))))))) (0 : Int32) σ)
def f_X11_evens (σ : kk_St) (Q : Int32 → kk_St → Prop) : Prop :=
 (kk_lp3 (fun (rec_4 : Int32 → Int32 → Int32 → Prop) (v1_1 : Int32) (v2_2 : Int32) (v3_3 : Int32) =>
 (f_X11_greatestUsed σ (fun (r_5 : Int32) =>
 ((r_5 < v3_3 → (f_X11_allLines σ (fun (r_6 : Int32) =>
 (f_X11_manyWith r_6 v1_1 σ (fun (r_7 : Int32) =>
 (f_X11_allLines σ (fun (r_8 : Int32) =>
 (f_X11_manyWith r_8 v2_2 σ (fun (r_9 : Int32) =>
 (((r_9 + (2 : Int32)) ≤ r_7 → (f_X11_longerChain v1_1 v2_2 σ (fun (r_10 : Int32) (σ_11 : kk_St) =>
 (f_X11_flips 3 20 r_10 v1_1 v2_2 σ_11 (fun (σ_12 : kk_St) =>
 Q (1 : Int32) σ_12))))) ∧
 (¬ (r_9 + (2 : Int32)) ≤ r_7 → Q (0 : Int32) σ))))))))))) ∧
 (¬ r_5 < v3_3 → (f_X11_allLines σ (fun (r_14 : Int32) =>
 (f_X11_manyWith r_14 v3_3 σ (fun (r_15 : Int32) =>
 (f_X11_allLines σ (fun (r_16 : Int32) =>
 (f_X11_manyWith r_16 v1_1 σ (fun (r_17 : Int32) =>
 (kk_j1 (fun (v1_18 : Int32) => (f_X11_allLines σ (fun (r_20 : Int32) =>
 (f_X11_manyWith r_20 v3_3 σ (fun (r_21 : Int32) =>
 (f_X11_allLines σ (fun (r_22 : Int32) =>
 (f_X11_manyWith r_22 v2_2 σ (fun (r_23 : Int32) =>
 (kk_j1 (fun (v2_24 : Int32) => rec_4 v1_18 v2_24 (v3_3 + (1 : Int32)))
 (fun (J_25 : Int32 → Prop) => ((r_23 ≤ r_21 → J_25 v2_2) ∧
 (¬ r_23 ≤ r_21 → J_25 v3_3)))))))))))))
 (fun (J_19 : Int32 → Prop) => ((r_15 ≤ r_17 → J_19 v1_1) ∧
 (¬ r_15 ≤ r_17 → J_19 v3_3))))))))))))))))) (0 : Int32) (0 : Int32) (1 : Int32))
def f_X11_even (σ : kk_St) (Q : Int32 → kk_St → Prop) : Prop :=
 (kk_lp2 (fun (rec_3 : Int32 → kk_St → Prop) (v1_1 : Int32) (σ_2 : kk_St) =>
 (f_X11_evens σ_2 (fun (r_4 : Int32) (σ_5 : kk_St) =>
 ((r_4 = 0 → Q v1_1 σ_5) ∧
 (¬ r_4 = 0 → rec_3 (v1_1 + (1 : Int32)) σ_5))))) (0 : Int32) σ)
def f_X11_otherEnd (v1 : Int32) (v2 : Int32) (σ : kk_St) (Q : Int32 → Prop) : Prop :=
 (vp_in v1 20 ∧
 (vp_in v1 20 ∧
 Q (((kk_rd σ 1 v1) + (kk_rd σ 2 v1)) - v2)))
def f_X11_laysFan (v1 : Int32) (v2 : Int32) (σ : kk_St) (Q : kk_St → Prop) : Prop :=
 (f_X11_otherEnd v1 v2 σ (fun (r_1 : Int32) =>
 (vp_in (0 : Int32) 9 ∧
 (∀ σ_2 : kk_St, σ_2 = (kk_wr σ 6 (Int32.toNatClampNeg (0 : Int32)) r_1) → (∀ σ_3 : kk_St, σ_3 = (kk_wr σ_2 0 11 (1 : Int32)) → (vp_in (0 : Int32) 9 ∧
 (∀ v3_4 : Int32, v3_4 = ((1 : Int32) <<< ((kk_rd σ_3 6 (0 : Int32)) &&& 31)) → (kk_lp3 (fun (rec_8 : Int32 → Int32 → kk_St → Prop) (v3_5 : Int32) (v4_6 : Int32) (σ_7 : kk_St) =>
 ((v4_6 = 0 → Q σ_7) ∧
 (¬ v4_6 = 0 → (vp_in ((σ_7.1 0 11) - (1 : Int32)) 9 ∧
 (∀ v5_9 : Int32, v5_9 = (kk_rd σ_7 6 ((σ_7.1 0 11) - (1 : Int32))) → (kk_lp2 (fun (rec_12 : Int32 → Int32 → Prop) (v6_10 : Int32) (v7_11 : Int32) =>
 (((σ_7.1 0 2) ≤ v7_11 → (kk_j1 (fun (t_13 : Int32) => ((¬ t_13 = 0 → (f_X11_otherEnd v6_10 v2 σ_7 (fun (r_15 : Int32) =>
 (vp_in (σ_7.1 0 11) 9 ∧
 (∀ σ_16 : kk_St, σ_16 = (kk_wr σ_7 6 (Int32.toNatClampNeg (σ_7.1 0 11)) r_15) → (vp_in (σ_16.1 0 11) 9 ∧
 (∀ v3_17 : Int32, v3_17 = (v3_5 ||| ((1 : Int32) <<< ((kk_rd σ_16 6 (σ_16.1 0 11)) &&& 31))) → (∀ σ_18 : kk_St, σ_18 = (kk_wr σ_16 0 11 ((σ_16.1 0 11) + (1 : Int32))) → rec_8 v3_17 t_13 σ_18)))))))) ∧
 (t_13 = 0 → rec_8 v3_5 t_13 σ_7)))
 (fun (J_14 : Int32 → Prop) => ((v6_10 = (-1 : Int32) → J_14 (0 : Int32)) ∧
 (¬ v6_10 = (-1 : Int32) → J_14 (1 : Int32)))))) ∧
 (¬ (σ_7.1 0 2) ≤ v7_11 → (f_X11_isAt v7_11 v2 σ_7 (fun (r_21 : Int32) =>
 (kk_j1 (fun (v6_22 : Int32) => rec_12 v6_22 (v7_11 + (1 : Int32)))
 (fun (J_23 : Int32 → Prop) => ((r_21 = 0 → J_23 v6_10) ∧
 (¬ r_21 = 0 → (vp_in v7_11 20 ∧
 (((kk_rd σ_7 3 v7_11) < 0 → J_23 v6_10) ∧
 (¬ (kk_rd σ_7 3 v7_11) < 0 → (f_X11_otherEnd v7_11 v2 σ_7 (fun (r_24 : Int32) =>
 (f_X11_has v3_5 r_24 (fun (r_25 : Int32) =>
 ((¬ r_25 = 0 → J_23 v6_10) ∧
 (r_25 = 0 → (vp_in v7_11 20 ∧
 (f_X11_isFreeAt v5_9 (kk_rd σ_7 3 v7_11) σ_7 (fun (r_26 : Int32) =>
 ((¬ r_26 = 0 → (kk_j0 (J_23 v7_11)
 (fun (J_27 : Prop) => ((v6_10 = (-1 : Int32) → J_27) ∧
 (¬ v6_10 = (-1 : Int32) → (vp_in v7_11 20 ∧
 (vp_in v6_10 20 ∧
 (((kk_rd σ_7 3 v6_10) ≤ (kk_rd σ_7 3 v7_11) → J_23 v6_10) ∧
 (¬ (kk_rd σ_7 3 v6_10) ≤ (kk_rd σ_7 3 v7_11) → J_27))))))))) ∧
 (r_26 = 0 → J_23 v6_10))))))))))))))))))))))) (-1 : Int32) (0 : Int32))))))) v3_4 (1 : Int32) σ_3))))))))
def f_X11_fan (v1 : Int32) (v2 : Int32) (v3 : Int32) (σ : kk_St) (Q : Int32 → kk_St → Prop) : Prop :=
 (f_X11_isLine v1 σ (fun (r_1 : Int32) =>
 (kk_j0 (Q (-1 : Int32) σ)
 (fun (J_2 : Prop) => ((r_1 = 0 → J_2) ∧
 (¬ r_1 = 0 → (f_X11_isAt v1 v2 σ (fun (r_3 : Int32) =>
 ((r_3 = 0 → J_2) ∧
 (¬ r_3 = 0 → (((-1 : Int32) ≤ v3 → (vp_in v1 20 ∧
 (((kk_rd σ 3 v1) < 0 → (f_X11_laysFan v1 v2 σ (fun (σ_4 : kk_St) =>
 (kk_j1 (fun (t_5 : Int32) => Q t_5 σ_4)
 (fun (J_6 : Int32 → Prop) => ((¬ v3 = (-1 : Int32) → (((σ_4.1 0 11) ≤ v3 → J_6 (-1 : Int32)) ∧
 (¬ (σ_4.1 0 11) ≤ v3 → (vp_in v3 9 ∧
 J_6 (kk_rd σ_4 6 v3))))) ∧
 (v3 = (-1 : Int32) → J_6 (σ_4.1 0 11)))))))) ∧
 (¬ (kk_rd σ 3 v1) < 0 → Q (-2 : Int32) σ)))) ∧
 (¬ (-1 : Int32) ≤ v3 → J_2))))))))))))
def f_X11_first (v1 : Int32) (v2 : Int32) (σ : kk_St) (Q : Int32 → kk_St → Prop) : Prop :=
 (f_X11_in v1 (0 : Int32) (9 : Int32) (fun (r_1 : Int32) =>
 (kk_j0 (Q (-1 : Int32) σ)
 (fun (J_2 : Prop) => ((r_1 = 0 → J_2) ∧
 (¬ r_1 = 0 → (f_X11_isLine v2 σ (fun (r_3 : Int32) =>
 ((¬ r_3 = 0 → (f_X11_allLines σ (fun (r_4 : Int32) =>
 (f_X11_laysFirst r_4 v1 σ (fun (r_5 : Int32) (σ_6 : kk_St) =>
 (kk_j1 (fun (t_7 : Int32) => Q t_7 σ_6)
 (fun (J_8 : Int32 → Prop) => ((r_5 = 0 → J_8 (-2 : Int32)) ∧
 (¬ r_5 = 0 → (vp_in v2 20 ∧
 J_8 (kk_rd σ_6 11 v2))))))))))) ∧
 (r_3 = 0 → J_2))))))))))
def f_X11_linesWithin (v1 : Int32) (σ : kk_St) (Q : Int32 → Prop) : Prop :=
 (kk_lp2 (fun (rec_3 : Int32 → Int32 → Prop) (v2_1 : Int32) (v3_2 : Int32) =>
 (((σ.1 0 2) ≤ v3_2 → Q v2_1) ∧
 (¬ (σ.1 0 2) ≤ v3_2 → (vp_in v3_2 20 ∧
 (f_X11_has v1 (kk_rd σ 1 v3_2) (fun (r_4 : Int32) =>
 (kk_j1 (fun (v2_5 : Int32) => rec_3 v2_5 (v3_2 + (1 : Int32)))
 (fun (J_6 : Int32 → Prop) => ((r_4 = 0 → J_6 v2_1) ∧
 (¬ r_4 = 0 → (vp_in v3_2 20 ∧
 (f_X11_has v1 (kk_rd σ 2 v3_2) (fun (r_7 : Int32) =>
 ((r_7 = 0 → J_6 v2_1) ∧
 (¬ r_7 = 0 → J_6 (v2_1 + (1 : Int32))))))))))))))))) (0 : Int32) (0 : Int32))
def f_X11_fullSet (v1 : Int32) (σ : kk_St) (Q : Int32 → Prop) : Prop :=
 (kk_lp1 (fun (rec_2 : Int32 → Prop) (v2_1 : Int32) =>
 (f_X11_allPosts σ (fun (r_3 : Int32) =>
 ((r_3 < v2_1 → Q (0 : Int32)) ∧
 (¬ r_3 < v2_1 → (f_X11_bitsOf v2_1 (fun (r_4 : Int32) =>
 (kk_j0 (rec_2 (v2_1 + (1 : Int32)))
 (fun (J_5 : Prop) => ((r_4 < (3 : Int32) → J_5) ∧
 (¬ r_4 < (3 : Int32) → ((¬ (r_4 - r_4 / (2 : Int32) * (2 : Int32)) = (1 : Int32) → J_5) ∧
 ((r_4 - r_4 / (2 : Int32) * (2 : Int32)) = (1 : Int32) → (f_X11_linesWithin v2_1 σ (fun (r_6 : Int32) =>
 ((r_6 ≤ (v1 * (r_4 / (2 : Int32))) → J_5) ∧
 (¬ r_6 ≤ (v1 * (r_4 / (2 : Int32))) → Q v2_1))))))))))))))))) (7 : Int32))
def f_X11_leastFreeAt (v1 : Int32) (σ : kk_St) (Q : Int32 → Prop) : Prop :=
 (kk_lp1 (fun (rec_2 : Int32 → Prop) (v2_1 : Int32) =>
 (f_X11_isFreeAt v1 v2_1 σ (fun (r_3 : Int32) =>
 ((¬ r_3 = 0 → Q v2_1) ∧
 (r_3 = 0 → rec_2 (v2_1 + (1 : Int32))))))) (0 : Int32))
def f_X11_lineOf (v1 : Int32) (v2 : Int32) (σ : kk_St) (Q : Int32 → Prop) : Prop :=
 (kk_j1 (fun (v3_1 : Int32) => Q v3_1)
 (fun (J_2 : Int32 → Prop) => (kk_lp1 (fun (rec_4 : Int32 → Prop) (v3_3 : Int32) =>
 (((σ.1 0 2) ≤ v3_3 → Q (-1 : Int32)) ∧
 (¬ (σ.1 0 2) ≤ v3_3 → (vp_in v3_3 20 ∧
 (kk_j0 ((vp_in v3_3 20 ∧
 (kk_j0 (rec_4 (v3_3 + (1 : Int32)))
 (fun (J_6 : Prop) => ((¬ (kk_rd σ 1 v3_3) = v2 → J_6) ∧
 ((kk_rd σ 1 v3_3) = v2 → (vp_in v3_3 20 ∧
 ((¬ (kk_rd σ 2 v3_3) = v1 → J_6) ∧
 ((kk_rd σ 2 v3_3) = v1 → J_2 v3_3)))))))))
 (fun (J_5 : Prop) => ((¬ (kk_rd σ 1 v3_3) = v1 → J_5) ∧
 ((kk_rd σ 1 v3_3) = v1 → (vp_in v3_3 20 ∧
 (((kk_rd σ 2 v3_3) = v2 → J_2 v3_3) ∧
 (¬ (kk_rd σ 2 v3_3) = v2 → J_5))))))))))) (0 : Int32))))
def f_X11_grows (v1 : Int32) (σ : kk_St) (Q : Int32 → kk_St → Prop) : Prop :=
 (vp_in v1 20 ∧
 (f_X11_laysFan v1 (kk_rd σ 1 v1) σ (fun (σ_1 : kk_St) =>
 (f_X11_leastFreeAt (kk_rd σ 1 v1) σ_1 (fun (r_2 : Int32) =>
 (vp_in ((σ_1.1 0 11) - (1 : Int32)) 9 ∧
 (f_X11_leastFreeAt (kk_rd σ_1 6 ((σ_1.1 0 11) - (1 : Int32))) σ_1 (fun (r_3 : Int32) =>
 (vp_in (4 : Int32) 5 ∧
 (∀ σ_4 : kk_St, σ_4 = (kk_wr σ_1 7 (Int32.toNatClampNeg (4 : Int32)) (0 : Int32)) → (f_X11_isFreeAt (kk_rd σ 1 v1) r_3 σ_4 (fun (r_5 : Int32) =>
 (kk_j1 (fun (σ_6 : kk_St) => (kk_j1 (fun (v5_8 : Int32) => (kk_lp2 (fun (rec_12 : Int32 → kk_St → Prop) (v6_10 : Int32) (σ_11 : kk_St) =>
 ((v5_8 ≤ v6_10 → (vp_in v5_8 9 ∧
 (f_X11_lineOf (kk_rd σ 1 v1) (kk_rd σ_11 6 v5_8) σ_11 (fun (r_13 : Int32) =>
 (vp_in r_13 20 ∧
 (∀ σ_14 : kk_St, σ_14 = (kk_wr σ_11 3 (Int32.toNatClampNeg r_13) r_3) → (vp_in (0 : Int32) 5 ∧
 (∀ σ_15 : kk_St, σ_15 = (kk_wr σ_14 7 (Int32.toNatClampNeg (0 : Int32)) r_2) → (vp_in (1 : Int32) 5 ∧
 (∀ σ_16 : kk_St, σ_16 = (kk_wr σ_15 7 (Int32.toNatClampNeg (1 : Int32)) r_3) → (vp_in (2 : Int32) 5 ∧
 (∀ σ_17 : kk_St, σ_17 = (kk_wr σ_16 7 (Int32.toNatClampNeg (2 : Int32)) (σ_16.1 0 11)) → (vp_in (3 : Int32) 5 ∧
 (∀ σ_18 : kk_St, σ_18 = (kk_wr σ_17 7 (Int32.toNatClampNeg (3 : Int32)) v5_8) → (∀ σ_19 : kk_St, σ_19 = (kk_wr σ_18 0 12 (1 : Int32)) → (vp_in v1 20 ∧
 Q (kk_rd σ_19 3 v1) σ_19)))))))))))))))) ∧
 (¬ v5_8 ≤ v6_10 → (vp_in v6_10 9 ∧
 (f_X11_lineOf (kk_rd σ 1 v1) (kk_rd σ_11 6 v6_10) σ_11 (fun (r_20 : Int32) =>
 (vp_in (v6_10 + (1 : Int32)) 9 ∧
 (f_X11_lineOf (kk_rd σ 1 v1) (kk_rd σ_11 6 (v6_10 + (1 : Int32))) σ_11 (fun (r_21 : Int32) =>
 (vp_in r_21 20 ∧
 (vp_in r_20 20 ∧
 (∀ σ_22 : kk_St, σ_22 = (kk_wr σ_11 3 (Int32.toNatClampNeg r_20) (kk_rd σ_11 3 r_21)) → rec_12 (v6_10 + (1 : Int32)) σ_22)))))))))))) (0 : Int32) σ_6))
 (fun (J_9 : Int32 → Prop) => (kk_lp1 (fun (rec_25 : Int32 → Prop) (v5_24 : Int32) =>
 (vp_in v5_24 9 ∧
 (f_X11_isFreeAt (kk_rd σ_6 6 v5_24) r_3 σ_6 (fun (r_26 : Int32) =>
 ((¬ r_26 = 0 → J_9 v5_24) ∧
 (r_26 = 0 → (vp_in v5_24 9 ∧
 (vp_in (v5_24 + (1 : Int32)) 9 ∧
 (f_X11_lineOf (kk_rd σ 1 v1) (kk_rd σ_6 6 (v5_24 + (1 : Int32))) σ_6 (fun (r_27 : Int32) =>
 (vp_in r_27 20 ∧
 (f_X11_isFreeAt (kk_rd σ_6 6 v5_24) (kk_rd σ_6 3 r_27) σ_6 (fun (r_28 : Int32) =>
 ((r_28 = 0 → J_9 v5_24) ∧
 (¬ r_28 = 0 → rec_25 (v5_24 + (1 : Int32))))))))))))))))) (0 : Int32)))))
 (fun (J_7 : kk_St → Prop) => ((¬ r_5 = 0 → J_7 σ_4) ∧
 (r_5 = 0 → (f_X11_chainIn 3 20 (kk_rd σ 1 v1) r_2 r_3 σ_4 (fun (r_31 : Int32) (σ_32 : kk_St) =>
 (f_X11_flips 3 20 r_31 r_2 r_3 σ_32 (fun (σ_33 : kk_St) =>
 (f_X11_bitsOf r_31 (fun (r_34 : Int32) =>
 (vp_in (4 : Int32) 5 ∧
 (∀ σ_35 : kk_St, σ_35 = (kk_wr σ_33 7 (Int32.toNatClampNeg (4 : Int32)) r_34) → J_7 σ_35))))))))))))))))))))))))
def f_X11_grow (v1 : Int32) (σ : kk_St) (Q : Int32 → kk_St → Prop) : Prop :=
 (f_X11_isLine v1 σ (fun (r_1 : Int32) =>
 ((¬ r_1 = 0 → (vp_in v1 20 ∧
 (kk_j2 (fun (t_2 : Int32) (σ_3 : kk_St) => Q t_2 σ_3)
 (fun (J_4 : Int32 → kk_St → Prop) => (((kk_rd σ 3 v1) < 0 → (f_X11_grows v1 σ (fun (r_5 : Int32) (σ_6 : kk_St) =>
 J_4 r_5 σ_6))) ∧
 (¬ (kk_rd σ 3 v1) < 0 → J_4 (-2 : Int32) σ)))))) ∧
 (r_1 = 0 → Q (-1 : Int32) σ))))
def f_X11_growAll (σ : kk_St) (Q : Int32 → kk_St → Prop) : Prop :=
 (kk_lp3 (fun (rec_4 : Int32 → Int32 → kk_St → Prop) (v1_1 : Int32) (v2_2 : Int32) (σ_3 : kk_St) =>
 (((σ_3.1 0 2) ≤ v2_2 → Q v1_1 σ_3) ∧
 (¬ (σ_3.1 0 2) ≤ v2_2 → (vp_in v2_2 20 ∧
 (kk_j2 (fun (v1_5 : Int32) (σ_6 : kk_St) => rec_4 v1_5 (v2_2 + (1 : Int32)) σ_6)
 (fun (J_7 : Int32 → kk_St → Prop) => (((kk_rd σ_3 3 v2_2) < 0 → (f_X11_grows v2_2 σ_3 (fun (r_8 : Int32) (σ_9 : kk_St) =>
 (kk_j1 (fun (t_10 : Int32) => J_7 (v1_1 + t_10) σ_9)
 (fun (J_11 : Int32 → Prop) => ((r_8 < 0 → J_11 (0 : Int32)) ∧
 (¬ r_8 < 0 → J_11 (1 : Int32)))))))) ∧
 (¬ (kk_rd σ_3 3 v2_2) < 0 → J_7 v1_1 σ_3)))))))) (0 : Int32) (0 : Int32) σ)
def f_X11_grown (v1 : Int32) (σ : kk_St) (Q : Int32 → Prop) : Prop :=
 (kk_j1 (fun (t_1 : Int32) => Q t_1)
 (fun (J_2 : Int32 → Prop) => (kk_j0 (J_2 (-1 : Int32))
 (fun (J_3 : Prop) => (((σ.1 0 12) = 0 → J_3) ∧
 (¬ (σ.1 0 12) = 0 → (f_X11_in v1 (0 : Int32) (4 : Int32) (fun (r_4 : Int32) =>
 ((r_4 = 0 → J_3) ∧
 (¬ r_4 = 0 → (vp_in v1 5 ∧
 J_2 (kk_rd σ 7 v1))))))))))))
def f_X11_idle (v1 : Int32) (σ : kk_St) (Q : Int32 → Prop) : Prop :=
 (kk_j1 (fun (t_1 : Int32) => Q t_1)
 (fun (J_2 : Int32 → Prop) => ((¬ v1 = (-1 : Int32) → (f_X11_isPost v1 σ (fun (r_3 : Int32) =>
 ((r_3 = 0 → J_2 (-2 : Int32)) ∧
 (¬ r_3 = 0 → (f_X11_idleAt v1 σ (fun (r_4 : Int32) =>
 J_2 r_4))))))) ∧
 (v1 = (-1 : Int32) → (f_X11_idleAll σ (fun (r_6 : Int32) =>
 J_2 r_6))))))
def f_X11_isTrialFit (σ : kk_St) (Q : Int32 → Prop) : Prop :=
 (kk_lp1 (fun (rec_2 : Int32 → Prop) (v1_1 : Int32) =>
 (((σ.1 0 2) ≤ v1_1 → Q (1 : Int32)) ∧
 (¬ (σ.1 0 2) ≤ v1_1 → (kk_lp1 (fun (rec_4 : Int32 → Prop) (v2_3 : Int32) =>
 ((v1_1 ≤ v2_3 → rec_2 (v1_1 + (1 : Int32))) ∧
 (¬ v1_1 ≤ v2_3 → (vp_in v1_1 20 ∧
 (vp_in v2_3 20 ∧
 (kk_j0 (rec_4 (v2_3 + (1 : Int32)))
 (fun (J_5 : Prop) => ((¬ (kk_rd σ 18 v1_1) = (kk_rd σ 18 v2_3) → J_5) ∧
 ((kk_rd σ 18 v1_1) = (kk_rd σ 18 v2_3) → (f_X11_doMeet v1_1 v2_3 σ (fun (r_6 : Int32) =>
 ((r_6 = 0 → J_5) ∧
 (¬ r_6 = 0 → Q (0 : Int32)))))))))))))) (0 : Int32))))) (0 : Int32))
def f_X11_keep (σ : kk_St) (Q : Int32 → kk_St → Prop) : Prop :=
 (kk_lp2 (fun (rec_3 : Int32 → kk_St → Prop) (v1_1 : Int32) (σ_2 : kk_St) =>
 (((σ_2.1 0 2) ≤ v1_1 → (∀ σ_4 : kk_St, σ_4 = (kk_wr σ_2 0 8 (1 : Int32)) → Q (1 : Int32) σ_4)) ∧
 (¬ (σ_2.1 0 2) ≤ v1_1 → (vp_in v1_1 20 ∧
 (vp_in v1_1 20 ∧
 (∀ σ_5 : kk_St, σ_5 = (kk_wr σ_2 5 (Int32.toNatClampNeg v1_1) (kk_rd σ_2 3 v1_1)) → rec_3 (v1_1 + (1 : Int32)) σ_5)))))) (0 : Int32) σ)
def f_X11_laysTrial (v1 : Int32) (v2 : Int32) (σ : kk_St) (Q : kk_St → Prop) : Prop :=
 (kk_lp3 (fun (rec_4 : Int32 → Int32 → kk_St → Prop) (v3_1 : Int32) (v4_2 : Int32) (σ_3 : kk_St) =>
 (((σ_3.1 0 2) ≤ v4_2 → Q σ_3) ∧
 (¬ (σ_3.1 0 2) ≤ v4_2 → (¬ v2 = 0 ∧ (vp_in v4_2 20 ∧
 (∀ σ_5 : kk_St, σ_5 = (kk_wr σ_3 18 (Int32.toNatClampNeg v4_2) (v3_1 - v3_1 / v2 * v2)) → (¬ v2 = 0 ∧ rec_4 (v3_1 / v2) (v4_2 + (1 : Int32)) σ_5))))))) v1 (0 : Int32) σ)
def f_X11_spreads (v1 : Int32) (v2 : Int32) (v3 : Int32) (σ : kk_St) (Q : kk_St → Prop) : Prop :=
 (vp_in (0 : Int32) 4096 ∧
 (∀ σ_1 : kk_St, σ_1 = (kk_wr σ 20 (Int32.toNatClampNeg (0 : Int32)) v1) → (vp_in v1 4096 ∧
 (∀ σ_2 : kk_St, σ_2 = (kk_wr σ_1 19 (Int32.toNatClampNeg v1) v3) → (kk_lp3 (fun (rec_6 : Int32 → Int32 → kk_St → Prop) (v4_3 : Int32) (v5_4 : Int32) (σ_5 : kk_St) =>
 ((v4_3 ≤ v5_4 → Q σ_5) ∧
 (¬ v4_3 ≤ v5_4 → (kk_lp3 (fun (rec_10 : Int32 → Int32 → kk_St → Prop) (v4_7 : Int32) (v6_8 : Int32) (σ_9 : kk_St) =>
 (((v2 * v2) ≤ v6_8 → rec_6 v4_7 (v5_4 + (1 : Int32)) σ_9) ∧
 (¬ (v2 * v2) ≤ v6_8 → (¬ v2 = 0 ∧ (¬ v2 = 0 ∧ (kk_j2 (fun (v4_11 : Int32) (σ_12 : kk_St) => rec_10 v4_11 (v6_8 + (1 : Int32)) σ_12)
 (fun (J_13 : Int32 → kk_St → Prop) => (kk_lp3 (fun (rec_17 : Int32 → Int32 → kk_St → Prop) (v4_14 : Int32) (v9_15 : Int32) (σ_16 : kk_St) =>
 (((σ_16.1 0 1) ≤ v9_15 → J_13 v4_14 σ_16) ∧
 (¬ (σ_16.1 0 1) ≤ v9_15 → (((v6_8 - v6_8 / v2 * v2) ≤ (v6_8 / v2) → J_13 v4_14 σ_16) ∧
 (¬ (v6_8 - v6_8 / v2 * v2) ≤ (v6_8 / v2) → (vp_in v5_4 4096 ∧
 (f_X11_laysTrial (kk_rd σ_16 20 v5_4) v2 σ_16 (fun (σ_18 : kk_St) =>
 (f_X11_chainIn 18 20 v9_15 (v6_8 / v2) (v6_8 - v6_8 / v2 * v2) σ_18 (fun (r_19 : Int32) (σ_20 : kk_St) =>
 (f_X11_flips 18 20 r_19 (v6_8 / v2) (v6_8 - v6_8 / v2 * v2) σ_20 (fun (σ_21 : kk_St) =>
 (f_X11_codeOf 18 20 v2 σ_21 (fun (r_22 : Int32) =>
 (vp_in r_22 4096 ∧
 (kk_j2 (fun (v4_23 : Int32) (σ_24 : kk_St) => rec_17 v4_23 (v9_15 + (1 : Int32)) σ_24)
 (fun (J_25 : Int32 → kk_St → Prop) => (((kk_rd σ_21 19 r_22) = 0 → (vp_in v5_4 4096 ∧
 (vp_in (kk_rd σ_21 20 v5_4) 4096 ∧
 (vp_in r_22 4096 ∧
 (∀ σ_26 : kk_St, σ_26 = (kk_wr σ_21 19 (Int32.toNatClampNeg r_22) ((kk_rd σ_21 19 (kk_rd σ_21 20 v5_4)) + (1 : Int32))) → (vp_in v4_14 4096 ∧
 (∀ σ_27 : kk_St, σ_27 = (kk_wr σ_26 20 (Int32.toNatClampNeg v4_14) r_22) → J_25 (v4_14 + (1 : Int32)) σ_27))))))) ∧
 (¬ (kk_rd σ_21 19 r_22) = 0 → J_25 v4_14 σ_21))))))))))))))))))) v4_7 (0 : Int32) σ_9)))))))) v4_3 (0 : Int32) σ_5)))) (1 : Int32) (0 : Int32) σ_2)))))
def f_X11_kinds (v1 : Int32) (σ : kk_St) (Q : Int32 → kk_St → Prop) : Prop :=
 (f_X11_in v1 (1 : Int32) (4 : Int32) (fun (r_1 : Int32) =>
 ((¬ r_1 = 0 → (((σ.1 0 2) ≤ (6 : Int32) → (kk_lp2 (fun (rec_4 : Int32 → kk_St → Prop) (v2_2 : Int32) (σ_3 : kk_St) =>
 (f_X11_codes v1 σ_3 (fun (r_5 : Int32) =>
 ((r_5 ≤ v2_2 → (kk_lp3 (fun (rec_9 : Int32 → Int32 → kk_St → Prop) (v2_6 : Int32) (v3_7 : Int32) (σ_8 : kk_St) =>
 (f_X11_codes v1 σ_8 (fun (r_10 : Int32) =>
 ((r_10 ≤ v3_7 → Q v2_6 σ_8) ∧
 (¬ r_10 ≤ v3_7 → (f_X11_laysTrial v3_7 v1 σ_8 (fun (σ_11 : kk_St) =>
 (vp_in v3_7 4096 ∧
 (kk_j2 (fun (v2_12 : Int32) (σ_13 : kk_St) => rec_9 v2_12 (v3_7 + (1 : Int32)) σ_13)
 (fun (J_14 : Int32 → kk_St → Prop) => ((¬ (kk_rd σ_11 19 v3_7) = 0 → J_14 v2_6 σ_11) ∧
 ((kk_rd σ_11 19 v3_7) = 0 → (f_X11_isTrialFit σ_11 (fun (r_15 : Int32) =>
 ((¬ r_15 = 0 → (f_X11_spreads v3_7 v1 (1 : Int32) σ_11 (fun (σ_16 : kk_St) =>
 J_14 (v2_6 + (1 : Int32)) σ_16))) ∧
 (r_15 = 0 → J_14 v2_6 σ_11)))))))))))))))) (0 : Int32) (0 : Int32) σ_3)) ∧
 (¬ r_5 ≤ v2_2 → (vp_in v2_2 4096 ∧
 (∀ σ_20 : kk_St, σ_20 = (kk_wr σ_3 19 (Int32.toNatClampNeg v2_2) (0 : Int32)) → rec_4 (v2_2 + (1 : Int32)) σ_20))))))) (0 : Int32) σ)) ∧
 (¬ (σ.1 0 2) ≤ (6 : Int32) → Q (-2 : Int32) σ))) ∧
 (r_1 = 0 → Q (-1 : Int32) σ))))
def f_X11_partsAhead (v1 : Int32) (σ : kk_St) (Q : Int32 → Prop) : Prop :=
 (kk_lp2 (fun (rec_3 : Int32 → Int32 → Prop) (v2_1 : Int32) (v3_2 : Int32) =>
 ((v1 ≤ v3_2 → Q v2_1) ∧
 (¬ v1 ≤ v3_2 → (vp_in v3_2 10 ∧
 (kk_j1 (fun (v2_4 : Int32) => rec_3 v2_4 (v3_2 + (1 : Int32)))
 (fun (J_5 : Int32 → Prop) => ((((kk_rd σ 16 v3_2) + (1 : Int32)) ≤ v2_1 → J_5 v2_1) ∧
 (¬ ((kk_rd σ 16 v3_2) + (1 : Int32)) ≤ v2_1 → (vp_in v3_2 10 ∧
 (∀ v2_6 : Int32, v2_6 = ((kk_rd σ 16 v3_2) + (1 : Int32)) → J_5 v2_6)))))))))) (0 : Int32) (0 : Int32))
def f_X11_laysParted (σ : kk_St) (Q : kk_St → Prop) : Prop :=
 (kk_lp2 (fun (rec_3 : Int32 → kk_St → Prop) (v1_1 : Int32) (σ_2 : kk_St) =>
 (((10 : Int32) ≤ v1_1 → (vp_in (0 : Int32) 10 ∧
 (∀ σ_4 : kk_St, σ_4 = (kk_wr σ_2 16 (Int32.toNatClampNeg (0 : Int32)) (-1 : Int32)) → (kk_lp2 (fun (rec_7 : Int32 → kk_St → Prop) (v1_5 : Int32) (σ_6 : kk_St) =>
 ((v1_5 < 0 → Q σ_6) ∧
 (¬ v1_5 < 0 → ((¬ v1_5 = (σ_6.1 0 2) → (vp_in v1_5 10 ∧
 (vp_in v1_5 10 ∧
 (∀ σ_8 : kk_St, σ_8 = (kk_wr σ_6 16 (Int32.toNatClampNeg v1_5) ((kk_rd σ_6 16 v1_5) + (1 : Int32))) → (vp_in v1_5 10 ∧
 (f_X11_partsAhead v1_5 σ_8 (fun (r_9 : Int32) =>
 (((kk_rd σ_8 16 v1_5) ≤ r_9 → (f_X11_canBePart v1_5 σ_8 (fun (r_10 : Int32) =>
 ((r_10 = 0 → rec_7 v1_5 σ_8) ∧
 (¬ r_10 = 0 → (vp_in (v1_5 + (1 : Int32)) 10 ∧
 (∀ σ_11 : kk_St, σ_11 = (kk_wr σ_8 16 (Int32.toNatClampNeg (v1_5 + (1 : Int32))) (-1 : Int32)) → rec_7 (v1_5 + (1 : Int32)) σ_11))))))) ∧
 (¬ (kk_rd σ_8 16 v1_5) ≤ r_9 → rec_7 (v1_5 + (-1 : Int32)) σ_8))))))))) ∧
 (v1_5 = (σ_6.1 0 2) → (f_X11_partsAhead v1_5 σ_6 (fun (r_14 : Int32) =>
 (vp_in r_14 10 ∧
 (vp_in r_14 10 ∧
 (∀ σ_15 : kk_St, σ_15 = (kk_wrL σ_6 (Int32.toNatClampNeg r_14) ((σ_6.2 (Int32.toNatClampNeg r_14)) + (1 : Int64))) → rec_7 (v1_5 + (-1 : Int32)) σ_15)))))))))) (0 : Int32) σ_4)))) ∧
 (¬ (10 : Int32) ≤ v1_1 → (vp_in v1_1 10 ∧
 (∀ σ_18 : kk_St, σ_18 = (kk_wrL σ_2 (Int32.toNatClampNeg v1_1) (0 : Int64)) → rec_3 (v1_1 + (1 : Int32)) σ_18))))) (0 : Int32) σ)
def f_X11_laysSides (σ : kk_St) (Q : Int32 → kk_St → Prop) : Prop :=
 (kk_lp2 (fun (rec_3 : Int32 → kk_St → Prop) (v1_1 : Int32) (σ_2 : kk_St) =>
 (((σ_2.1 0 1) ≤ v1_1 → (kk_lp2 (fun (rec_6 : Int32 → kk_St → Prop) (v1_4 : Int32) (σ_5 : kk_St) =>
 (((σ_5.1 0 1) ≤ v1_4 → (kk_lp1 (fun (rec_8 : Int32 → Prop) (v1_7 : Int32) =>
 (((σ_5.1 0 2) ≤ v1_7 → Q (1 : Int32) σ_5) ∧
 (¬ (σ_5.1 0 2) ≤ v1_7 → (vp_in v1_7 20 ∧
 (vp_in (kk_rd σ_5 1 v1_7) 9 ∧
 (vp_in v1_7 20 ∧
 (vp_in (kk_rd σ_5 2 v1_7) 9 ∧
 ((¬ (kk_rd σ_5 8 (kk_rd σ_5 1 v1_7)) = (kk_rd σ_5 8 (kk_rd σ_5 2 v1_7)) → rec_8 (v1_7 + (1 : Int32))) ∧
 ((kk_rd σ_5 8 (kk_rd σ_5 1 v1_7)) = (kk_rd σ_5 8 (kk_rd σ_5 2 v1_7)) → Q (0 : Int32) σ_5))))))))) (0 : Int32))) ∧
 (¬ (σ_5.1 0 1) ≤ v1_4 → (vp_in v1_4 9 ∧
 (kk_j1 (fun (σ_11 : kk_St) => rec_6 (v1_4 + (1 : Int32)) σ_11)
 (fun (J_12 : kk_St → Prop) => (((kk_rd σ_5 8 v1_4) = (-1 : Int32) → (vp_in v1_4 9 ∧
 (∀ σ_13 : kk_St, σ_13 = (kk_wr σ_5 8 (Int32.toNatClampNeg v1_4) (0 : Int32)) → (kk_lp2 (fun (rec_16 : Int32 → kk_St → Prop) (v2_14 : Int32) (σ_15 : kk_St) =>
 ((v2_14 = 0 → J_12 σ_15) ∧
 (¬ v2_14 = 0 → (kk_lp3 (fun (rec_20 : Int32 → Int32 → kk_St → Prop) (v2_17 : Int32) (v3_18 : Int32) (σ_19 : kk_St) =>
 (((σ_19.1 0 2) ≤ v3_18 → rec_16 v2_17 σ_19) ∧
 (¬ (σ_19.1 0 2) ≤ v3_18 → (vp_in v3_18 20 ∧
 (vp_in v3_18 20 ∧
 (vp_in (kk_rd σ_19 1 v3_18) 9 ∧
 (kk_j1 (fun (t_21 : Int32) => (vp_in (kk_rd σ_19 2 v3_18) 9 ∧
 (kk_j1 (fun (t_23 : Int32) => (kk_j2 (fun (v2_25 : Int32) (σ_26 : kk_St) => rec_20 v2_25 (v3_18 + (1 : Int32)) σ_26)
 (fun (J_27 : Int32 → kk_St → Prop) => ((¬ t_21 = t_23 → (vp_in (kk_rd σ_19 1 v3_18) 9 ∧
 ((¬ (kk_rd σ_19 8 (kk_rd σ_19 1 v3_18)) = (-1 : Int32) → (vp_in (kk_rd σ_19 1 v3_18) 9 ∧
 (vp_in (kk_rd σ_19 2 v3_18) 9 ∧
 (∀ σ_28 : kk_St, σ_28 = (kk_wr σ_19 8 (Int32.toNatClampNeg (kk_rd σ_19 2 v3_18)) ((1 : Int32) - (kk_rd σ_19 8 (kk_rd σ_19 1 v3_18)))) → J_27 (1 : Int32) σ_28)))) ∧
 ((kk_rd σ_19 8 (kk_rd σ_19 1 v3_18)) = (-1 : Int32) → (vp_in (kk_rd σ_19 2 v3_18) 9 ∧
 (vp_in (kk_rd σ_19 1 v3_18) 9 ∧
 (∀ σ_29 : kk_St, σ_29 = (kk_wr σ_19 8 (Int32.toNatClampNeg (kk_rd σ_19 1 v3_18)) ((1 : Int32) - (kk_rd σ_19 8 (kk_rd σ_19 2 v3_18)))) → J_27 (1 : Int32) σ_29))))))) ∧
 (t_21 = t_23 → J_27 v2_17 σ_19)))))
 (fun (J_24 : Int32 → Prop) => ((¬ (kk_rd σ_19 8 (kk_rd σ_19 2 v3_18)) = (-1 : Int32) → J_24 (0 : Int32)) ∧
 ((kk_rd σ_19 8 (kk_rd σ_19 2 v3_18)) = (-1 : Int32) → J_24 (1 : Int32)))))))
 (fun (J_22 : Int32 → Prop) => ((¬ (kk_rd σ_19 8 (kk_rd σ_19 1 v3_18)) = (-1 : Int32) → J_22 (0 : Int32)) ∧
 ((kk_rd σ_19 8 (kk_rd σ_19 1 v3_18)) = (-1 : Int32) → J_22 (1 : Int32))))))))))) (0 : Int32) (0 : Int32) σ_15)))) (1 : Int32) σ_13)))) ∧
 (¬ (kk_rd σ_5 8 v1_4) = (-1 : Int32) → J_12 σ_5)))))))) (0 : Int32) σ_2)) ∧
 (¬ (σ_2.1 0 1) ≤ v1_1 → (vp_in v1_1 9 ∧
 (∀ σ_38 : kk_St, σ_38 = (kk_wr σ_2 8 (Int32.toNatClampNeg v1_1) (-1 : Int32)) → rec_3 (v1_1 + (1 : Int32)) σ_38))))) (0 : Int32) σ)
def f_X11_line (v1 : Int32) (v2 : Int32) (σ : kk_St) (Q : Int32 → kk_St → Prop) : Prop :=
 (f_X11_isPost v1 σ (fun (r_1 : Int32) =>
 (kk_j0 (Q (-1 : Int32) σ)
 (fun (J_2 : Prop) => ((r_1 = 0 → J_2) ∧
 (¬ r_1 = 0 → (f_X11_isPost v2 σ (fun (r_3 : Int32) =>
 ((r_3 = 0 → J_2) ∧
 (¬ r_3 = 0 → ((v1 = v2 → J_2) ∧
 (¬ v1 = v2 → (f_X11_lineOf v1 v2 σ (fun (r_4 : Int32) =>
 ((¬ r_4 = (-1 : Int32) → J_2) ∧
 (r_4 = (-1 : Int32) → ((¬ (σ.1 0 2) = (20 : Int32) → (kk_j1 (fun (t_5 : Int32) => (vp_in (σ.1 0 2) 20 ∧
 (∀ σ_7 : kk_St, σ_7 = (kk_wr σ 1 (Int32.toNatClampNeg (σ.1 0 2)) t_5) → (kk_j1 (fun (t_8 : Int32) => (vp_in (σ_7.1 0 2) 20 ∧
 (∀ σ_10 : kk_St, σ_10 = (kk_wr σ_7 2 (Int32.toNatClampNeg (σ_7.1 0 2)) t_8) → (vp_in (σ_10.1 0 2) 20 ∧
 (∀ σ_11 : kk_St, σ_11 = (kk_wr σ_10 3 (Int32.toNatClampNeg (σ_10.1 0 2)) (-1 : Int32)) → (vp_in (σ_11.1 0 2) 20 ∧
 (∀ σ_12 : kk_St, σ_12 = (kk_wr σ_11 4 (Int32.toNatClampNeg (σ_11.1 0 2)) (511 : Int32)) → (vp_in (σ_12.1 0 2) 20 ∧
 (∀ σ_13 : kk_St, σ_13 = (kk_wr σ_12 5 (Int32.toNatClampNeg (σ_12.1 0 2)) (-1 : Int32)) → (∀ σ_14 : kk_St, σ_14 = (kk_wr σ_13 0 2 ((σ_13.1 0 2) + (1 : Int32))) → Q ((σ_14.1 0 2) - (1 : Int32)) σ_14))))))))))
 (fun (J_9 : Int32 → Prop) => ((v2 ≤ v1 → J_9 v1) ∧
 (¬ v2 ≤ v1 → J_9 v2)))))))
 (fun (J_6 : Int32 → Prop) => ((v2 ≤ v1 → J_6 v2) ∧
 (¬ v2 ≤ v1 → J_6 v1))))) ∧
 ((σ.1 0 2) = (20 : Int32) → J_2))))))))))))))))))
def f_X11_list (v1 : Int32) (v2 : Int32) (σ : kk_St) (Q : Int32 → kk_St → Prop) : Prop :=
 (f_X11_isLine v1 σ (fun (r_1 : Int32) =>
 (kk_j0 (Q (-1 : Int32) σ)
 (fun (J_2 : Prop) => ((r_1 = 0 → J_2) ∧
 (¬ r_1 = 0 → (f_X11_in v2 (0 : Int32) (511 : Int32) (fun (r_3 : Int32) =>
 ((¬ r_3 = 0 → (vp_in v1 20 ∧
 (vp_in v1 20 ∧
 (∀ σ_4 : kk_St, σ_4 = (kk_wr σ 4 (Int32.toNatClampNeg v1) v2) → Q (kk_rd σ 4 v1) σ_4)))) ∧
 (r_3 = 0 → J_2))))))))))
def f_X11_listed (v1 : Int32) (σ : kk_St) (Q : Int32 → kk_St → Prop) : Prop :=
 (f_X11_isLine v1 σ (fun (r_1 : Int32) =>
 ((¬ r_1 = 0 → (((σ.1 0 2) ≤ (9 : Int32) → (kk_lp2 (fun (rec_4 : Int32 → kk_St → Prop) (v2_2 : Int32) (σ_3 : kk_St) =>
 (((σ_3.1 0 2) ≤ v2_2 → (∀ σ_5 : kk_St, σ_5 = (kk_wr σ_3 0 17 (0 : Int32)) → (f_X11_allLines σ_5 (fun (r_6 : Int32) =>
 (f_X11_picksFirst r_6 σ_5 (fun (r_7 : Int32) (σ_8 : kk_St) =>
 (kk_j1 (fun (t_9 : Int32) => Q t_9 σ_8)
 (fun (J_10 : Int32 → Prop) => ((r_7 = 0 → J_10 (-2 : Int32)) ∧
 (¬ r_7 = 0 → (vp_in v1 20 ∧
 J_10 (kk_rd σ_8 11 v1)))))))))))) ∧
 (¬ (σ_3.1 0 2) ≤ v2_2 → (vp_in v2_2 20 ∧
 (vp_in v2_2 20 ∧
 (∀ σ_12 : kk_St, σ_12 = (kk_wr σ_3 10 (Int32.toNatClampNeg v2_2) (kk_rd σ_3 4 v2_2)) → rec_4 (v2_2 + (1 : Int32)) σ_12)))))) (0 : Int32) σ)) ∧
 (¬ (σ.1 0 2) ≤ (9 : Int32) → Q (-3 : Int32) σ))) ∧
 (r_1 = 0 → Q (-1 : Int32) σ))))
def f_X11_longest (v1 : Int32) (σ : kk_St) (Q : Int32 → kk_St → Prop) : Prop :=
 (f_X11_in v1 (0 : Int32) (3 : Int32) (fun (r_1 : Int32) =>
 ((¬ r_1 = 0 → (kk_lp6 (fun (rec_8 : Int32 → Int32 → Int32 → Int32 → Int32 → kk_St → Prop) (v2_2 : Int32) (v3_3 : Int32) (v4_4 : Int32) (v5_5 : Int32) (v6_6 : Int32) (σ_7 : kk_St) =>
 (f_X11_degree σ_7 (fun (r_9 : Int32) =>
 ((r_9 < v6_6 → (kk_j1 (fun (t_10 : Int32) => Q t_10 σ_7)
 (fun (J_11 : Int32 → Prop) => ((¬ v2_2 = 0 → ((¬ v1 = 0 → ((¬ v1 = (1 : Int32) → ((¬ v1 = (2 : Int32) → J_11 v5_5) ∧
 (v1 = (2 : Int32) → J_11 v4_4))) ∧
 (v1 = (1 : Int32) → J_11 v3_3))) ∧
 (v1 = 0 → J_11 v2_2))) ∧
 (v2_2 = 0 → J_11 (-2 : Int32)))))) ∧
 (¬ r_9 < v6_6 → (kk_lp6 (fun (rec_22 : Int32 → Int32 → Int32 → Int32 → Int32 → kk_St → Prop) (v2_16 : Int32) (v3_17 : Int32) (v4_18 : Int32) (v5_19 : Int32) (v7_20 : Int32) (σ_21 : kk_St) =>
 (f_X11_degree σ_21 (fun (r_23 : Int32) =>
 ((r_23 < v7_20 → rec_8 v2_16 v3_17 v4_18 v5_19 (v6_6 + (1 : Int32)) σ_21) ∧
 (¬ r_23 < v7_20 → (kk_lp6 (fun (rec_30 : Int32 → Int32 → Int32 → Int32 → Int32 → kk_St → Prop) (v2_24 : Int32) (v3_25 : Int32) (v4_26 : Int32) (v5_27 : Int32) (v8_28 : Int32) (σ_29 : kk_St) =>
 (((σ_29.1 0 2) ≤ v8_28 → rec_22 v2_24 v3_25 v4_26 v5_27 (v7_20 + (1 : Int32)) σ_29) ∧
 (¬ (σ_29.1 0 2) ≤ v8_28 → (vp_in v8_28 20 ∧
 (kk_j5 (fun (v2_31 : Int32) (v3_32 : Int32) (v4_33 : Int32) (v5_34 : Int32) (σ_35 : kk_St) => rec_30 v2_31 v3_32 v4_33 v5_34 (v8_28 + (1 : Int32)) σ_35)
 (fun (J_36 : Int32 → Int32 → Int32 → Int32 → kk_St → Prop) => (kk_j0 ((vp_in v8_28 20 ∧
 (f_X11_chainIn 3 20 (kk_rd σ_29 1 v8_28) v6_6 v7_20 σ_29 (fun (r_38 : Int32) (σ_39 : kk_St) =>
 (f_X11_bitsOf r_38 (fun (r_40 : Int32) =>
 ((v2_24 < r_40 → (f_X11_bitsOf r_38 (fun (r_41 : Int32) =>
 (f_X11_lowestOf r_38 (fun (r_42 : Int32) =>
 J_36 r_41 v6_6 v7_20 r_42 σ_39))))) ∧
 (¬ v2_24 < r_40 → J_36 v2_24 v3_25 v4_26 v5_27 σ_39))))))))
 (fun (J_37 : Prop) => (((kk_rd σ_29 3 v8_28) = v6_6 → J_37) ∧
 (¬ (kk_rd σ_29 3 v8_28) = v6_6 → (vp_in v8_28 20 ∧
 (((kk_rd σ_29 3 v8_28) = v7_20 → J_37) ∧
 (¬ (kk_rd σ_29 3 v8_28) = v7_20 → J_36 v2_24 v3_25 v4_26 v5_27 σ_29))))))))))))) v2_16 v3_17 v4_18 v5_19 (0 : Int32) σ_21)))))) v2_2 v3_3 v4_4 v5_5 (v6_6 + (1 : Int32)) σ_7)))))) (0 : Int32) (0 : Int32) (0 : Int32) (0 : Int32) (0 : Int32) σ)) ∧
 (r_1 = 0 → Q (-1 : Int32) σ))))
def f_X11_oddRound (σ : kk_St) (Q : Int32 → kk_St → Prop) : Prop :=
 (kk_lp3 (fun (rec_4 : Int32 → Int32 → kk_St → Prop) (v1_1 : Int32) (v2_2 : Int32) (σ_3 : kk_St) =>
 (((σ_3.1 0 1) ≤ v2_2 → (kk_j1 (fun (t_5 : Int32) => Q t_5 σ_3)
 (fun (J_6 : Int32 → Prop) => ((v1_1 ≤ (9 : Int32) → J_6 v1_1) ∧
 (¬ v1_1 ≤ (9 : Int32) → J_6 (0 : Int32)))))) ∧
 (¬ (σ_3.1 0 1) ≤ v2_2 → (kk_lp2 (fun (rec_10 : Int32 → kk_St → Prop) (v3_8 : Int32) (σ_9 : kk_St) =>
 (((18 : Int32) ≤ v3_8 → (kk_lp2 (fun (rec_13 : Int32 → kk_St → Prop) (v3_11 : Int32) (σ_12 : kk_St) =>
 (((18 : Int32) ≤ v3_11 → (vp_in (((2 : Int32) * v2_2) + (1 : Int32)) 18 ∧
 (kk_j1 (fun (v1_14 : Int32) => rec_4 v1_14 (v2_2 + (1 : Int32)) σ_12)
 (fun (J_15 : Int32 → Prop) => ((v1_1 ≤ (kk_rd σ_12 9 (((2 : Int32) * v2_2) + (1 : Int32))) → J_15 v1_1) ∧
 (¬ v1_1 ≤ (kk_rd σ_12 9 (((2 : Int32) * v2_2) + (1 : Int32))) → (vp_in (((2 : Int32) * v2_2) + (1 : Int32)) 18 ∧
 (∀ v1_16 : Int32, v1_16 = (kk_rd σ_12 9 (((2 : Int32) * v2_2) + (1 : Int32))) → J_15 v1_16)))))))) ∧
 (¬ (18 : Int32) ≤ v3_11 → (kk_lp2 (fun (rec_20 : Int32 → kk_St → Prop) (v4_18 : Int32) (σ_19 : kk_St) =>
 (((σ_19.1 0 2) ≤ v4_18 → rec_13 (v3_11 + (1 : Int32)) σ_19) ∧
 (¬ (σ_19.1 0 2) ≤ v4_18 → (kk_lp2 (fun (rec_23 : Int32 → kk_St → Prop) (v5_21 : Int32) (σ_22 : kk_St) =>
 (((2 : Int32) ≤ v5_21 → rec_20 (v4_18 + (1 : Int32)) σ_22) ∧
 (¬ (2 : Int32) ≤ v5_21 → (vp_in v4_18 20 ∧
 (∀ v6_24 : Int32, v6_24 = (((2 : Int32) * (kk_rd σ_22 1 v4_18)) + v5_21) → (vp_in v4_18 20 ∧
 (∀ v7_25 : Int32, v7_25 = ((((2 : Int32) * (kk_rd σ_22 2 v4_18)) + (1 : Int32)) - v5_21) → (vp_in v6_24 18 ∧
 (vp_in v7_25 18 ∧
 (kk_j1 (fun (σ_26 : kk_St) => (vp_in v7_25 18 ∧
 (vp_in v6_24 18 ∧
 (kk_j1 (fun (σ_28 : kk_St) => rec_23 (v5_21 + (1 : Int32)) σ_28)
 (fun (J_29 : kk_St → Prop) => (((kk_rd σ_26 9 v6_24) ≤ ((kk_rd σ_26 9 v7_25) + (1 : Int32)) → J_29 σ_26) ∧
 (¬ (kk_rd σ_26 9 v6_24) ≤ ((kk_rd σ_26 9 v7_25) + (1 : Int32)) → (vp_in v7_25 18 ∧
 (vp_in v6_24 18 ∧
 (∀ σ_30 : kk_St, σ_30 = (kk_wr σ_26 9 (Int32.toNatClampNeg v6_24) ((kk_rd σ_26 9 v7_25) + (1 : Int32))) → J_29 σ_30))))))))))
 (fun (J_27 : kk_St → Prop) => (((kk_rd σ_22 9 v7_25) ≤ ((kk_rd σ_22 9 v6_24) + (1 : Int32)) → J_27 σ_22) ∧
 (¬ (kk_rd σ_22 9 v7_25) ≤ ((kk_rd σ_22 9 v6_24) + (1 : Int32)) → (vp_in v6_24 18 ∧
 (vp_in v7_25 18 ∧
 (∀ σ_32 : kk_St, σ_32 = (kk_wr σ_22 9 (Int32.toNatClampNeg v7_25) ((kk_rd σ_22 9 v6_24) + (1 : Int32))) → J_27 σ_32)))))))))))))))) (0 : Int32) σ_19)))) (0 : Int32) σ_12)))) (0 : Int32) σ_9)) ∧
 (¬ (18 : Int32) ≤ v3_8 → (kk_j1 (fun (t_37 : Int32) => (vp_in v3_8 18 ∧
 (∀ σ_39 : kk_St, σ_39 = (kk_wr σ_9 9 (Int32.toNatClampNeg v3_8) t_37) → rec_10 (v3_8 + (1 : Int32)) σ_39)))
 (fun (J_38 : Int32 → Prop) => ((¬ v3_8 = ((2 : Int32) * v2_2) → J_38 (99 : Int32)) ∧
 (v3_8 = ((2 : Int32) * v2_2) → J_38 (0 : Int32)))))))) (0 : Int32) σ_3)))) (19 : Int32) (0 : Int32) σ)
def f_X11_of (v1 : Int32) (v2 : Int32) (σ : kk_St) (Q : Int32 → Prop) : Prop :=
 (f_X11_isLine v1 σ (fun (r_1 : Int32) =>
 ((¬ r_1 = 0 → ((v2 = nI 0 → (vp_in v1 20 ∧
 Q (kk_rd σ 1 v1))) ∧
 (v2 = nI 1 → (vp_in v1 20 ∧
 Q (kk_rd σ 2 v1))) ∧
 (v2 = nI 2 → (vp_in v1 20 ∧
 (kk_j1 (fun (t_2 : Int32) => Q t_2)
 (fun (J_3 : Int32 → Prop) => ((0 ≤ (kk_rd σ 3 v1) → (vp_in v1 20 ∧
 J_3 (kk_rd σ 3 v1))) ∧
 (¬ 0 ≤ (kk_rd σ 3 v1) → J_3 (-2 : Int32))))))) ∧
 (v2 = nI 3 → (kk_lp2 (fun (rec_7 : Int32 → Int32 → Prop) (v3_5 : Int32) (v4_6 : Int32) =>
 (((σ.1 0 2) ≤ v4_6 → Q v3_5) ∧
 (¬ (σ.1 0 2) ≤ v4_6 → (kk_j1 (fun (v3_8 : Int32) => rec_7 v3_8 (v4_6 + (1 : Int32)))
 (fun (J_9 : Int32 → Prop) => ((v4_6 = v1 → J_9 v3_5) ∧
 (¬ v4_6 = v1 → (f_X11_doMeet v4_6 v1 σ (fun (r_10 : Int32) =>
 ((r_10 = 0 → J_9 v3_5) ∧
 (¬ r_10 = 0 → (∀ v3_11 : Int32, v3_11 = (v3_5 ||| ((1 : Int32) <<< (v4_6 &&& 31))) → J_9 v3_11)))))))))))) (0 : Int32) (0 : Int32))) ∧
 (v2.toInt < 0 ∨ (4 : Int) ≤ v2.toInt → Q (-1 : Int32)))) ∧
 (r_1 = 0 → Q (-1 : Int32)))))
def f_X11_overfull (v1 : Int32) (σ : kk_St) (Q : Int32 → Prop) : Prop :=
 (f_X11_in v1 (0 : Int32) (2 : Int32) (fun (r_1 : Int32) =>
 ((¬ r_1 = 0 → (f_X11_degree σ (fun (r_2 : Int32) =>
 (f_X11_fullSet r_2 σ (fun (r_3 : Int32) =>
 ((¬ r_3 = 0 → (kk_j1 (fun (t_4 : Int32) => Q t_4)
 (fun (J_5 : Int32 → Prop) => ((¬ v1 = 0 → ((¬ v1 = (1 : Int32) → (f_X11_degree σ (fun (r_6 : Int32) =>
 (f_X11_bitsOf r_3 (fun (r_7 : Int32) =>
 J_5 (r_6 * (r_7 / (2 : Int32)))))))) ∧
 (v1 = (1 : Int32) → (f_X11_linesWithin r_3 σ (fun (r_8 : Int32) =>
 J_5 r_8))))) ∧
 (v1 = 0 → J_5 r_3))))) ∧
 (r_3 = 0 → Q (-2 : Int32)))))))) ∧
 (r_1 = 0 → Q (-1 : Int32)))))
def f_X11_paint (v1 : Int32) (v2 : Int32) (σ : kk_St) (Q : Int32 → kk_St → Prop) : Prop :=
 (f_X11_isLine v1 σ (fun (r_1 : Int32) =>
 (kk_j0 (Q (0 : Int32) σ)
 (fun (J_2 : Prop) => ((r_1 = 0 → J_2) ∧
 (¬ r_1 = 0 → (f_X11_isColour v2 σ (fun (r_3 : Int32) =>
 ((r_3 = 0 → J_2) ∧
 (¬ r_3 = 0 → (vp_in v1 20 ∧
 (f_X11_isFreeAt (kk_rd σ 1 v1) v2 σ (fun (r_4 : Int32) =>
 ((r_4 = 0 → J_2) ∧
 (¬ r_4 = 0 → (vp_in v1 20 ∧
 (f_X11_isFreeAt (kk_rd σ 2 v1) v2 σ (fun (r_5 : Int32) =>
 ((¬ r_5 = 0 → (vp_in v1 20 ∧
 (∀ σ_6 : kk_St, σ_6 = (kk_wr σ 3 (Int32.toNatClampNeg v1) v2) → Q (1 : Int32) σ_6))) ∧
 (r_5 = 0 → J_2))))))))))))))))))))
def f_X11_pair (σ : kk_St) (Q : Int32 → kk_St → Prop) : Prop :=
 (f_X11_laysSides σ (fun (r_1 : Int32) (σ_2 : kk_St) =>
 ((¬ r_1 = 0 → (f_X11_degree σ_2 (fun (r_3 : Int32) =>
 (kk_lp2 (fun (rec_6 : Int32 → kk_St → Prop) (v2_4 : Int32) (σ_5 : kk_St) =>
 (((σ_5.1 0 2) ≤ v2_4 → (kk_lp2 (fun (rec_9 : Int32 → kk_St → Prop) (v2_7 : Int32) (σ_8 : kk_St) =>
 (((σ_8.1 0 2) ≤ v2_7 → Q (σ_8.1 0 2) σ_8) ∧
 (¬ (σ_8.1 0 2) ≤ v2_7 → (vp_in v2_7 20 ∧
 (f_X11_usedAt (kk_rd σ_8 1 v2_7) σ_8 (fun (r_10 : Int32) =>
 (vp_in v2_7 20 ∧
 (f_X11_usedAt (kk_rd σ_8 2 v2_7) σ_8 (fun (r_11 : Int32) =>
 (kk_lp1 (fun (rec_13 : Int32 → Prop) (v4_12 : Int32) =>
 (f_X11_has (r_10 ||| r_11) v4_12 (fun (r_14 : Int32) =>
 ((r_14 = 0 → (kk_j2 (fun (v4_15 : Int32) (σ_16 : kk_St) => (vp_in v2_7 20 ∧
 (∀ σ_18 : kk_St, σ_18 = (kk_wr σ_16 3 (Int32.toNatClampNeg v2_7) v4_15) → rec_9 (v2_7 + (1 : Int32)) σ_18)))
 (fun (J_17 : Int32 → kk_St → Prop) => ((v4_12 < r_3 → J_17 v4_12 σ_8) ∧
 (¬ v4_12 < r_3 → (vp_in v2_7 20 ∧
 (f_X11_leastFreeAt (kk_rd σ_8 1 v2_7) σ_8 (fun (r_19 : Int32) =>
 (vp_in v2_7 20 ∧
 (f_X11_leastFreeAt (kk_rd σ_8 2 v2_7) σ_8 (fun (r_20 : Int32) =>
 (vp_in v2_7 20 ∧
 (f_X11_chainIn 3 20 (kk_rd σ_8 2 v2_7) r_19 r_20 σ_8 (fun (r_21 : Int32) (σ_22 : kk_St) =>
 (f_X11_flips 3 20 r_21 r_19 r_20 σ_22 (fun (σ_23 : kk_St) =>
 J_17 r_19 σ_23)))))))))))))))) ∧
 (¬ r_14 = 0 → rec_13 (v4_12 + (1 : Int32))))))) (0 : Int32))))))))))) (0 : Int32) σ_5)) ∧
 (¬ (σ_5.1 0 2) ≤ v2_4 → (vp_in v2_4 20 ∧
 (∀ σ_27 : kk_St, σ_27 = (kk_wr σ_5 3 (Int32.toNatClampNeg v2_4) (-1 : Int32)) → rec_6 (v2_4 + (1 : Int32)) σ_27))))) (0 : Int32) σ_2)))) ∧
 (r_1 = 0 → Q (-2 : Int32) σ_2))))
def f_X11_post (v1 : Int32) (v2 : Int32) (σ : kk_St) (Q : Int32 → Prop) : Prop :=
 (f_X11_isPost v1 σ (fun (r_1 : Int32) =>
 ((¬ r_1 = 0 → ((v2 = nI 0 → (f_X11_allLines σ (fun (r_2 : Int32) =>
 (f_X11_linesAt v1 r_2 σ (fun (r_3 : Int32) =>
 Q r_3))))) ∧
 (v2 = nI 1 → (f_X11_usedAt v1 σ (fun (r_4 : Int32) =>
 Q r_4))) ∧
 (v2 = nI 2 → (f_X11_leastFreeAt v1 σ (fun (r_5 : Int32) =>
 Q r_5))) ∧
 (v2 = nI 3 → (kk_lp2 (fun (rec_8 : Int32 → Int32 → Prop) (v3_6 : Int32) (v4_7 : Int32) =>
 (((σ.1 0 2) ≤ v4_7 → Q v3_6) ∧
 (¬ (σ.1 0 2) ≤ v4_7 → (f_X11_isAt v4_7 v1 σ (fun (r_9 : Int32) =>
 (kk_j1 (fun (v3_10 : Int32) => rec_8 v3_10 (v4_7 + (1 : Int32)))
 (fun (J_11 : Int32 → Prop) => ((r_9 = 0 → J_11 v3_6) ∧
 (¬ r_9 = 0 → (vp_in v4_7 20 ∧
 (((kk_rd σ 3 v4_7) < 0 → J_11 v3_6) ∧
 (¬ (kk_rd σ 3 v4_7) < 0 → (kk_j0 (J_11 v4_7)
 (fun (J_12 : Prop) => ((v3_6 = (-1 : Int32) → J_12) ∧
 (¬ v3_6 = (-1 : Int32) → (vp_in v4_7 20 ∧
 (vp_in v3_6 20 ∧
 (((kk_rd σ 3 v4_7) ≤ (kk_rd σ 3 v3_6) → J_11 v3_6) ∧
 (¬ (kk_rd σ 3 v4_7) ≤ (kk_rd σ 3 v3_6) → J_12)))))))))))))))))))) (-1 : Int32) (0 : Int32))) ∧
 (v2.toInt < 0 ∨ (4 : Int) ≤ v2.toInt → Q (-1 : Int32)))) ∧
 (r_1 = 0 → Q (-1 : Int32)))))
def f_X11_refused (v1 : Int32) (v2 : Int32) (σ : kk_St) (Q : Int32 → kk_St → Prop) : Prop :=
 (f_X11_in v1 (0 : Int32) (9 : Int32) (fun (r_1 : Int32) =>
 (kk_j0 (Q (-1 : Int32) σ)
 (fun (J_2 : Prop) => ((r_1 = 0 → J_2) ∧
 (¬ r_1 = 0 → (f_X11_in v2 (0 : Int32) (1 : Int32) (fun (r_3 : Int32) =>
 ((¬ r_3 = 0 → (kk_lp1 (fun (rec_5 : Int32 → Prop) (v3_4 : Int32) =>
 (((σ.1 0 1) ≤ v3_4 → (f_X11_fullSet v1 σ (fun (r_6 : Int32) =>
 ((r_6 = 0 → (kk_j2 (fun (t_7 : Int32) (σ_8 : kk_St) => Q t_7 σ_8)
 (fun (J_9 : Int32 → kk_St → Prop) => (kk_j1 (fun (σ_10 : kk_St) => J_9 (0 : Int32) σ_10)
 (fun (J_11 : kk_St → Prop) => ((v2 = (1 : Int32) → J_11 σ) ∧
 (¬ v2 = (1 : Int32) → (f_X11_allLines σ (fun (r_12 : Int32) =>
 (f_X11_laysFirst r_12 v1 σ (fun (r_13 : Int32) (σ_14 : kk_St) =>
 ((r_13 = 0 → J_9 (3 : Int32) σ_14) ∧
 (¬ r_13 = 0 → J_11 σ_14))))))))))))) ∧
 (¬ r_6 = 0 → (kk_j1 (fun (t_17 : Int32) => Q t_17 σ)
 (fun (J_18 : Int32 → Prop) => ((¬ v2 = 0 → J_18 r_6) ∧
 (v2 = 0 → J_18 (2 : Int32)))))))))) ∧
 (¬ (σ.1 0 1) ≤ v3_4 → (f_X11_allLines σ (fun (r_21 : Int32) =>
 (f_X11_linesAt v3_4 r_21 σ (fun (r_22 : Int32) =>
 ((r_22 ≤ v1 → rec_5 (v3_4 + (1 : Int32))) ∧
 (¬ r_22 ≤ v1 → (kk_j1 (fun (t_23 : Int32) => Q t_23 σ)
 (fun (J_24 : Int32 → Prop) => ((¬ v2 = 0 → J_24 v3_4) ∧
 (v2 = 0 → J_24 (1 : Int32)))))))))))))) (0 : Int32))) ∧
 (r_3 = 0 → J_2))))))))))
def f_X11_sets (v1 : Int32) (σ : kk_St) (Q : Int32 → kk_St → Prop) : Prop :=
 (f_X11_in v1 (0 : Int32) (4 : Int32) (fun (r_1 : Int32) =>
 ((¬ r_1 = 0 → (kk_lp2 (fun (rec_4 : Int32 → kk_St → Prop) (v2_2 : Int32) (σ_3 : kk_St) =>
 (((2560 : Int32) ≤ v2_2 → (f_X11_allPosts σ_3 (fun (r_5 : Int32) =>
 (vp_in ((5 : Int32) * r_5) 2560 ∧
 (∀ σ_6 : kk_St, σ_6 = (kk_wr σ_3 22 (Int32.toNatClampNeg ((5 : Int32) * r_5)) (1 : Int32)) → (kk_lp2 (fun (rec_9 : Int32 → kk_St → Prop) (v2_7 : Int32) (σ_8 : kk_St) =>
 (((σ_8.1 0 2) ≤ v2_7 → (kk_lp2 (fun (rec_12 : Int32 → Int32 → Prop) (v2_10 : Int32) (v3_11 : Int32) =>
 (((512 : Int32) ≤ v3_11 → Q v2_10 σ_8) ∧
 (¬ (512 : Int32) ≤ v3_11 → (vp_in (((5 : Int32) * v3_11) + v1) 2560 ∧
 (∀ v2_13 : Int32, v2_13 = (v2_10 + (kk_rd σ_8 22 (((5 : Int32) * v3_11) + v1))) → rec_12 v2_13 (v3_11 + (1 : Int32))))))) (0 : Int32) (0 : Int32))) ∧
 (¬ (σ_8.1 0 2) ≤ v2_7 → (kk_lp2 (fun (rec_17 : Int32 → kk_St → Prop) (v3_15 : Int32) (σ_16 : kk_St) =>
 (((512 : Int32) ≤ v3_15 → rec_9 (v2_7 + (1 : Int32)) σ_16) ∧
 (¬ (512 : Int32) ≤ v3_15 → (f_X11_areThere v3_15 v2_7 σ_16 (fun (r_18 : Int32) =>
 (kk_j1 (fun (σ_19 : kk_St) => rec_17 (v3_15 + (1 : Int32)) σ_19)
 (fun (J_20 : kk_St → Prop) => ((¬ r_18 = 0 → (kk_lp2 (fun (rec_23 : Int32 → kk_St → Prop) (v4_21 : Int32) (σ_22 : kk_St) =>
 (((4 : Int32) ≤ v4_21 → J_20 σ_22) ∧
 (¬ (4 : Int32) ≤ v4_21 → (f_X11_without v3_15 v2_7 σ_22 (fun (r_24 : Int32) =>
 (vp_in ((((5 : Int32) * r_24) + v4_21) + (1 : Int32)) 2560 ∧
 (vp_in (((5 : Int32) * v3_15) + v4_21) 2560 ∧
 (vp_in ((((5 : Int32) * r_24) + v4_21) + (1 : Int32)) 2560 ∧
 (∀ σ_25 : kk_St, σ_25 = (kk_wr σ_22 22 (Int32.toNatClampNeg ((((5 : Int32) * r_24) + v4_21) + (1 : Int32))) ((kk_rd σ_22 22 ((((5 : Int32) * r_24) + v4_21) + (1 : Int32))) + (kk_rd σ_22 22 (((5 : Int32) * v3_15) + v4_21)))) → rec_23 (v4_21 + (1 : Int32)) σ_25))))))))) (0 : Int32) σ_16)) ∧
 (r_18 = 0 → J_20 σ_16))))))))) (0 : Int32) σ_8)))) (0 : Int32) σ_6)))))) ∧
 (¬ (2560 : Int32) ≤ v2_2 → (vp_in v2_2 2560 ∧
 (∀ σ_30 : kk_St, σ_30 = (kk_wr σ_3 22 (Int32.toNatClampNeg v2_2) (0 : Int32)) → rec_4 (v2_2 + (1 : Int32)) σ_30))))) (0 : Int32) σ)) ∧
 (r_1 = 0 → Q (-1 : Int32) σ))))
def f_X11_sides (v1 : Int32) (σ : kk_St) (Q : Int32 → kk_St → Prop) : Prop :=
 (f_X11_in v1 (0 : Int32) (2 : Int32) (fun (r_1 : Int32) =>
 ((¬ r_1 = 0 → ((¬ v1 = (2 : Int32) → (f_X11_laysSides σ (fun (r_2 : Int32) (σ_3 : kk_St) =>
 ((¬ v1 = 0 → ((¬ r_2 = 0 → (kk_lp2 (fun (rec_6 : Int32 → Int32 → Prop) (v3_4 : Int32) (v4_5 : Int32) =>
 (((σ_3.1 0 1) ≤ v4_5 → Q v3_4 σ_3) ∧
 (¬ (σ_3.1 0 1) ≤ v4_5 → (vp_in v4_5 9 ∧
 (kk_j1 (fun (v3_7 : Int32) => rec_6 v3_7 (v4_5 + (1 : Int32)))
 (fun (J_8 : Int32 → Prop) => ((¬ (kk_rd σ_3 8 v4_5) = 0 → J_8 v3_4) ∧
 ((kk_rd σ_3 8 v4_5) = 0 → (∀ v3_9 : Int32, v3_9 = (v3_4 ||| ((1 : Int32) <<< (v4_5 &&& 31))) → J_8 v3_9))))))))) (0 : Int32) (0 : Int32))) ∧
 (r_2 = 0 → Q (-2 : Int32) σ_3))) ∧
 (v1 = 0 → (kk_j1 (fun (t_13 : Int32) => Q t_13 σ_3)
 (fun (J_14 : Int32 → Prop) => ((r_2 = 0 → J_14 (0 : Int32)) ∧
 (¬ r_2 = 0 → J_14 (1 : Int32)))))))))) ∧
 (v1 = (2 : Int32) → (f_X11_oddRound σ (fun (r_17 : Int32) (σ_18 : kk_St) =>
 Q r_17 σ_18))))) ∧
 (r_1 = 0 → Q (-1 : Int32) σ))))
def f_X11_swap (v1 : Int32) (v2 : Int32) (σ : kk_St) (Q : Int32 → kk_St → Prop) : Prop :=
 (f_X11_areColours v1 v2 σ (fun (r_1 : Int32) =>
 ((¬ r_1 = 0 → (f_X11_swaps v1 v2 σ (fun (r_2 : Int32) (σ_3 : kk_St) =>
 Q r_2 σ_3))) ∧
 (r_1 = 0 → Q (-1 : Int32) σ))))
def f_X11_take (v1 : Int32) (σ : kk_St) (Q : Int32 → kk_St → Prop) : Prop :=
 (f_X11_degree σ (fun (r_1 : Int32) =>
 (f_X11_in v1 (0 : Int32) (r_1 + (1 : Int32)) (fun (r_2 : Int32) =>
 (kk_j1 (fun (σ_3 : kk_St) => Q (0 : Int32) σ_3)
 (fun (J_4 : kk_St → Prop) => ((r_2 = 0 → J_4 σ) ∧
 (¬ r_2 = 0 → (f_X11_allLines σ (fun (r_5 : Int32) =>
 (f_X11_laysFirst r_5 v1 σ (fun (r_6 : Int32) (σ_7 : kk_St) =>
 ((¬ r_6 = 0 → (kk_lp2 (fun (rec_10 : Int32 → kk_St → Prop) (v2_8 : Int32) (σ_9 : kk_St) =>
 (((σ_9.1 0 2) ≤ v2_8 → Q (1 : Int32) σ_9) ∧
 (¬ (σ_9.1 0 2) ≤ v2_8 → (vp_in v2_8 20 ∧
 (vp_in v2_8 20 ∧
 (∀ σ_11 : kk_St, σ_11 = (kk_wr σ_9 3 (Int32.toNatClampNeg v2_8) (kk_rd σ_9 11 v2_8)) → rec_10 (v2_8 + (1 : Int32)) σ_11)))))) (0 : Int32) σ_7)) ∧
 (r_6 = 0 → J_4 σ_7))))))))))))))
def f_X11_turn (v1 : Int32) (v2 : Int32) (v3 : Int32) (σ : kk_St) (Q : Int32 → kk_St → Prop) : Prop :=
 (f_X11_isChain v1 v2 v3 σ (fun (r_1 : Int32) =>
 ((¬ r_1 = 0 → (f_X11_chainIn 3 20 v1 v2 v3 σ (fun (r_2 : Int32) (σ_3 : kk_St) =>
 (f_X11_flips 3 20 r_2 v2 v3 σ_3 (fun (σ_4 : kk_St) =>
 (f_X11_bitsOf r_2 (fun (r_5 : Int32) =>
 Q r_5 σ_4))))))) ∧
 (r_1 = 0 → Q (-1 : Int32) σ))))
def f_X11_turns (v1 : Int32) (σ : kk_St) (Q : Int32 → kk_St → Prop) : Prop :=
 (f_X11_in v1 (1 : Int32) (4 : Int32) (fun (r_1 : Int32) =>
 (kk_j0 (Q (-1 : Int32) σ)
 (fun (J_2 : Prop) => ((r_1 = 0 → J_2) ∧
 (¬ r_1 = 0 → (((σ.1 0 8) = 0 → J_2) ∧
 (¬ (σ.1 0 8) = 0 → (((6 : Int32) < (σ.1 0 2) → J_2) ∧
 (¬ (6 : Int32) < (σ.1 0 2) → (f_X11_areBelow 5 20 v1 σ (fun (r_3 : Int32) =>
 ((r_3 = 0 → J_2) ∧
 (¬ r_3 = 0 → (f_X11_areBelow 3 20 v1 σ (fun (r_4 : Int32) =>
 ((¬ r_4 = 0 → (kk_lp2 (fun (rec_7 : Int32 → kk_St → Prop) (v2_5 : Int32) (σ_6 : kk_St) =>
 (f_X11_codes v1 σ_6 (fun (r_8 : Int32) =>
 ((r_8 ≤ v2_5 → (f_X11_codeOf 5 20 v1 σ_6 (fun (r_9 : Int32) =>
 (f_X11_spreads r_9 v1 (1 : Int32) σ_6 (fun (σ_10 : kk_St) =>
 (f_X11_codeOf 3 20 v1 σ_10 (fun (r_11 : Int32) =>
 (vp_in r_11 4096 ∧
 (kk_j1 (fun (t_12 : Int32) => Q t_12 σ_10)
 (fun (J_13 : Int32 → Prop) => ((¬ (kk_rd σ_10 19 r_11) = 0 → J_13 ((kk_rd σ_10 19 r_11) - (1 : Int32))) ∧
 ((kk_rd σ_10 19 r_11) = 0 → J_13 (-2 : Int32))))))))))))) ∧
 (¬ r_8 ≤ v2_5 → (vp_in v2_5 4096 ∧
 (∀ σ_15 : kk_St, σ_15 = (kk_wr σ_6 19 (Int32.toNatClampNeg v2_5) (0 : Int32)) → rec_7 (v2_5 + (1 : Int32)) σ_15))))))) (0 : Int32) σ)) ∧
 (r_4 = 0 → J_2))))))))))))))))))
def f_X11_unlike (v1 : Int32) (σ : kk_St) (Q : Int32 → Prop) : Prop :=
 (f_X11_in v1 (0 : Int32) (1 : Int32) (fun (r_1 : Int32) =>
 ((¬ r_1 = 0 → ((¬ (σ.1 0 8) = 0 → (kk_j1 (fun (t_2 : Int32) => Q t_2)
 (fun (J_3 : Int32 → Prop) => ((¬ v1 = 0 → (f_X11_areLike σ (fun (r_4 : Int32) =>
 ((r_4 = 0 → J_3 (0 : Int32)) ∧
 (¬ r_4 = 0 → J_3 (1 : Int32)))))) ∧
 (v1 = 0 → (f_X11_unlikeMany σ (fun (r_6 : Int32) =>
 J_3 r_6))))))) ∧
 ((σ.1 0 8) = 0 → Q (-2 : Int32)))) ∧
 (r_1 = 0 → Q (-1 : Int32)))))
def f_X11_ways (v1 : Int32) (σ : kk_St) (Q : Int64 → kk_St → Prop) : Prop :=
 (f_X11_in v1 (0 : Int32) (9 : Int32) (fun (r_1 : Int32) =>
 ((¬ r_1 = 0 → (((σ.1 0 2) ≤ (9 : Int32) → (f_X11_laysParted σ (fun (σ_2 : kk_St) =>
 (kk_lp2 (fun (rec_5 : Int64 → Int32 → Prop) (v2_3 : Int64) (v4_4 : Int32) =>
 (((σ_2.1 0 2) < v4_4 → Q v2_3 σ_2) ∧
 (¬ (σ_2.1 0 2) < v4_4 → (kk_lp2 (fun (rec_8 : Int64 → Int32 → Prop) (v5_6 : Int64) (v7_7 : Int32) =>
 ((v4_4 ≤ v7_7 → (vp_in v4_4 10 ∧
 (∀ v2_9 : Int64, v2_9 = (v2_3 + ((σ_2.2 (Int32.toNatClampNeg v4_4)) * v5_6)) → rec_5 v2_9 (v4_4 + (1 : Int32))))) ∧
 (¬ v4_4 ≤ v7_7 → (∀ v5_10 : Int64, v5_10 = (v5_6 * (Int32.toInt64 (v1 - v7_7))) → rec_8 v5_10 (v7_7 + (1 : Int32)))))) (1 : Int64) (0 : Int32))))) (0 : Int64) (0 : Int32))))) ∧
 (¬ (σ.1 0 2) ≤ (9 : Int32) → Q (-2 : Int64) σ))) ∧
 (r_1 = 0 → Q (-1 : Int64) σ))))
