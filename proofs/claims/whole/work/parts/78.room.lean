/-! when lines can't all be coloured: counts -/
theorem sumN_ind {P : Bool} {x K : Nat} (hx : P = true → x < K) : sumN (fun q => if P && decide (x = q) then 1 else 0) K = if P then 1 else 0 := by
  cases P with
  | false => exact (sumN_ct (P := fun q => false && decide (x = q)) K).trans (fb_ct_zero.mpr (fun _ _ => rfl))
  | true => exact (sumN_ct (P := fun q => true && decide (x = q)) K).trans ((fb_ct_cong (p := fun q => true && decide (x = q)) (q := fun q => decide (x = q)) (fun _ _ => rfl)).trans (ct_one (hx rfl)))
theorem ct_by {U : Nat → Bool} {f : Nat → Nat} {K : Nat} : ∀ {m : Nat}, (∀ l, l < m → U l = true → f l < K) → fb_ct U m = sumN (fun q => fb_ct (fun l => U l && decide (f l = q)) m) K
  | 0, _ => by
    have : ∀ K, sumN (fun q => fb_ct (fun l => U l && decide (f l = q)) 0) K = 0 := fun K => by
      induction K with
      | zero => rfl
      | succ K ih => rw [sumN, ih]; rfl
    rw [this]; rfl
  | m + 1, h => by
    have ih := ct_by (m := m) (fun l hl => h l (by omega))
    rw [fb_ct_succ, ih]
    have e : sumN (fun q => fb_ct (fun l => U l && decide (f l = q)) (m + 1)) K = sumN (fun q => fb_ct (fun l => U l && decide (f l = q)) m + (if U m && decide (f m = q) then 1 else 0)) K := sumN_cong (fun q _ => fb_ct_succ _ _)
    rw [e, sumN_add, sumN_ind (h m (by omega))]
theorem ct_le1 {P : Nat → Bool} {m : Nat} (h : ∀ i j, i < m → j < m → P i = true → P j = true → i = j) : fb_ct P m ≤ 1 := by
  rcases fst_ex P m with ⟨t, ht, t1, t0⟩ | h0
  · have : fb_ct P m ≤ fb_ct (fun k => decide (t = k)) m := fb_ct_sub (fun k hk z => decide_eq_true (h t k ht hk t1 z))
    rw [ct_one ht] at this
    exact this
  · rw [fb_ct_zero.mpr h0]; exact Nat.zero_le _
section
variable {n m : Nat} {a b : Nat → Nat}
theorem room_ok (W : Wf n m a b) {U : Nat → Bool} {f : Nat → Nat} {K : Nat} (hf : ∀ l, l < m → U l = true → f l < K) (hp : ∀ i j, i < m → j < m → U i = true → U j = true → mts a b i j = true → f i ≠ f j) {T : Nat → Nat → Bool} (hT : ∀ l, l < m → U l = true → T (f l) (a l) = true ∧ T (f l) (b l) = true) : fb_ct U m ≤ sumN (fun q => fb_ct (T q) n / 2) K := by
  rw [ct_by hf]
  refine sumN_mono (fun q _ => ?_)
  have h2 : pst n m a b (fun l => U l && decide (f l = q)) = 2 * fb_ct (fun l => U l && decide (f l = q)) m := match_posts W (fun i j hi hj h1 h2 => by
    simp only [Bool.and_eq_true, decide_eq_true_eq] at h1 h2
    cases z : mts a b i j with
    | false => rfl
    | true => exact absurd (h1.2.trans h2.2.symm) (hp i j hi hj h1.1 h2.1 z))
  have h3 : pst n m a b (fun l => U l && decide (f l = q)) ≤ fb_ct (T q) n := fb_ct_sub (fun p _ h => by
    obtain ⟨l, hl, h⟩ := anyb_iff.mp h
    simp only [Bool.and_eq_true, decide_eq_true_eq] at h
    obtain ⟨t1, t2⟩ := hT l hl h.1.1
    rw [h.1.2] at t1 t2
    rcases inc_iff.mp h.2 with z | z
    · rw [← z]; exact t1
    · rw [← z]; exact t2)
  omega
theorem post_ok {U V : Nat → Bool} {f : Nat → Nat} {K p : Nat} (hf : ∀ l, l < m → U l = true → f l < K) (hp : ∀ i j, i < m → j < m → U i = true → U j = true → mts a b i j = true → f i ≠ f j) (hi : ∀ l, l < m → U l = true → inc a b l p = true) (hV : ∀ l, l < m → U l = true → V (f l) = true) : fb_ct U m ≤ fb_ct V K := by
  rw [ct_by hf, ← sumN_ct]
  refine sumN_mono (fun q _ => ?_)
  have one : fb_ct (fun l => U l && decide (f l = q)) m ≤ 1 := ct_le1 (fun i j hi' hj h1 h2 => by
    simp only [Bool.and_eq_true, decide_eq_true_eq] at h1 h2
    by_cases e : i = j
    · exact e
    · exact absurd (h1.2.trans h2.2.symm) (hp i j hi' hj h1.1 h2.1 (mts_iff.mpr ⟨e, p, hi i hi' h1.1, hi j hj h2.1⟩)))
  cases z : V q with
  | true => rw [if_pos rfl]; exact one
  | false =>
    rw [fb_ct_zero.mpr (fun l hl => ?_)]
    · exact Nat.zero_le _
    · cases y : U l with
      | false => rfl
      | true =>
        by_cases e : f l = q
        · have := hV l hl y
          rw [e, z] at this
          cases this
        · rw [decide_eq_false e]; rfl
theorem no_deg {S : Nat → Bool} {k : Nat} (h : k < DgS n m a b S) : ¬ exc m a b (Lk k) S := by
  rintro ⟨f, h1, h2⟩
  have h : k < mx (dgS m a b S) n := h
  rcases mx_at (dgS m a b S) (n := n) with z | ⟨p, hp, z⟩
  · omega
  · have := post_ok (m := m) (a := a) (b := b) (U := fun l => S l && inc a b l p) (V := fun _ => true) (f := f) (K := k) (p := p) (fun l hl u => by
      rw [Bool.and_eq_true] at u
      exact of_decide_eq_true (h1 l hl u.1)) (fun i j hi hj u v hm => by
      rw [Bool.and_eq_true] at u v
      exact h2 i j hi hj u.1 v.1 hm) (fun l hl u => by
      rw [Bool.and_eq_true] at u
      exact u.2) (fun _ _ _ => rfl)
    have e : fb_ct (fun l => S l && inc a b l p) m = dgS m a b S p := rfl
    have := fb_ct_le (fun _ => true) k
    omega
theorem no_crowd (W : Wf n m a b) {S : Nat → Bool} {d : Nat} (h : crS n m a b S d ≠ 0) : ¬ exc m a b (Lk d) S := by
  rintro ⟨f, h1, h2⟩
  have hn := W.2.1
  unfold crS at h
  by_cases hx : fa_first (fun X => decide (7 ≤ X) && crw m a b S d X) (2 ^ n) < 2 ^ n
  · rcases fst_ex (fun X => decide (7 ≤ X) && crw m a b S d X) (2 ^ n) with ⟨X, x1, x2, x3⟩ | x0
    · simp only [Bool.and_eq_true, decide_eq_true_eq, crw] at x2
      obtain ⟨_, _, _, x4⟩ := x2
      have r := room_ok W (U := fun l => S l && (bt (nI X) (a l) && bt (nI X) (b l))) (f := f) (K := d) (fun l hl u => by
        rw [Bool.and_eq_true] at u
        exact of_decide_eq_true (h1 l hl u.1)) (fun i j hi hj u v hm => by
        rw [Bool.and_eq_true] at u v
        exact h2 i j hi hj u.1 v.1 hm) (T := fun _ => bt (nI X)) (fun l hl u => by
        simp only [Bool.and_eq_true] at u
        exact ⟨u.2.1, u.2.2⟩)
      have s := sumN_le (f := fun _ => fb_ct (bt (nI X)) n / 2) (x := fb_ct (bt (nI X)) n / 2) (fun _ => Nat.le_refl _) d
      have mo := fb_ct_mono (bt (nI X)) (show n ≤ 32 by omega)
      have e : pop (nI X) = fb_ct (bt (nI X)) 32 := rfl
      have m2 : fb_ct (bt (nI X)) n / 2 * d ≤ d * (pop (nI X) / 2) := by
        rw [Nat.mul_comm]
        exact Nat.mul_le_mul_left d (by omega)
      have e2 : wi m a b S X = fb_ct (fun l => S l && (bt (nI X) (a l) && bt (nI X) (b l))) m := rfl
      omega
    · rw [first_none x0] at hx; omega
  · rw [if_neg hx] at h; exact h rfl
/-- two colours exchanged -/
def swc (f : Nat → Nat) (q q' : Nat) : Nat → Nat := fun l => if f l = q then q' else if f l = q' then q else f l
theorem okc_swc {L : Nat → Nat → Bool} {S : Nat → Bool} {f : Nat → Nat} {q q' : Nat} (h : okc m a b L S f) (hL : ∀ l, l < m → S l = true → L l q = L l q') : okc m a b L S (swc f q q') := by
  refine ⟨fun l hl hs => ?_, fun i j hi hj h1 h2 hm => ?_⟩
  · have g := h.1 l hl hs
    have e := hL l hl hs
    unfold swc
    by_cases z : f l = q
    · rw [if_pos z, ← e, ← z]; exact g
    · rw [if_neg z]
      by_cases y : f l = q'
      · rw [if_pos y, e, ← y]; exact g
      · rw [if_neg y]; exact g
  · have g := h.2 i j hi hj h1 h2 hm
    unfold swc
    intro z
    split at z <;> split at z <;> (try split at z) <;> (try split at z) <;> omega
theorem exc_cong {L L' : Nat → Nat → Bool} {S : Nat → Bool} (h : ∀ l, l < m → ∀ q, L l q = L' l q) : exc m a b L S ↔ exc m a b L' S := by
  constructor
  · rintro ⟨f, h1, h2⟩
    exact ⟨f, fun l hl hs => by rw [← h l hl]; exact h1 l hl hs, h2⟩
  · rintro ⟨f, h1, h2⟩
    exact ⟨f, fun l hl hs => by rw [h l hl]; exact h1 l hl hs, h2⟩
theorem fstc_cong {L L' : Nat → Nat → Bool} {S : Nat → Bool} (h : ∀ l, l < m → ∀ q, L l q = L' l q) {f : Nat → Nat} (hf : fstc m a b L S f) : fstc m a b L' S f := by
  refine ⟨⟨fun l hl hs => by rw [← h l hl]; exact hf.1.1 l hl hs, hf.1.2⟩, fun g hg => hf.2 g ⟨fun l hl hs => by rw [h l hl]; exact hg.1 l hl hs, hg.2⟩⟩
theorem fstc_eq {L : Nat → Nat → Bool} {f g : Nat → Nat} (hf : fstc m a b L allS f) (hg : fstc m a b L allS g) : ∀ k, k < m → f k = g k := by
  intro k
  induction k using Nat.strongRecOn with
  | ind k ih =>
    intro hk
    have e : ∀ j, j < k → f j = g j := fun j hj => ih j hj (by omega)
    have h1 := hf.2 g hg.1 k hk rfl (fun j hj _ => (e j hj).symm)
    have h2 := hg.2 f hf.1 k hk rfl (fun j hj _ => e j hj)
    omega
end
