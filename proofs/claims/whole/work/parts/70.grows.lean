/-! the reference's shift -/
def shR (L : Nat → Nat) (c : Nat → Int32) : Nat → Nat → Int32
  | 0 => c
  | i + 1 => upd (shR L c i) (L i) (shR L c i (L (i + 1)))
section
variable {n m : Nat} {a b : Nat → Nat} {c : Nat → Int32} {x s : Nat} {L Y : Nat → Nat}
theorem shR_eq (H : FanL m a b x s L Y) : ∀ i, i < s → ∀ k, k ≠ L i → shR L c i k = shC L c i k
  | 0, _, _, _ => rfl
  | i + 1, hi, k, hk => by
    have ih := shR_eq H i (by omega)
    have hne : L (i + 1) ≠ L i := fun z => by have := fan_ne H (by omega) (by omega) z; omega
    show upd (shR L c i) (L i) (shR L c i (L (i + 1))) k = upd (upd (shC L c i) (L (i + 1)) (-1)) (L i) (shC L c i (L (i + 1))) k
    rw [upd_if, upd_if, upd_if, ih _ hne]
    by_cases e : k = L i
    · rw [if_pos e, if_pos e]
    · rw [if_neg e, if_neg e, if_neg hk]
      exact ih k e
theorem shR_end (H : FanL m a b x s L Y) {w : Nat} (hw : w < s) (v : Int32) (k : Nat) : upd (shR L c w) (L w) v k = upd (shC L c w) (L w) v k := by
  rw [upd_if, upd_if]
  by_cases e : k = L w
  · rw [if_pos e, if_pos e]
  · rw [if_neg e, if_neg e]; exact shR_eq H w hw k e
end
