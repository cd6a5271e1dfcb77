/-! completing: the first side's search -/
def LO (O : Nat → Nat → Bool) : Nat → Nat → Bool := fun l q => decide (q < 9) && O q l
def OP (m : Nat) (O : Nat → Nat → Bool) (σ : kk_St) : Prop := ∀ q, q < 9 → σ.1 20 q = mk (O q) m
section
variable {n m : Nat} {a b : Nat → Nat} {σ : kk_St} {O : Nat → Nat → Bool} {S : Nat → Bool}
theorem sc_tightest (N : RN n m a b σ) (W : Wf n m a b) (H : OP m O σ) (hS : ¬ mk S m = 0) {Q : Int32 → Prop} (h1 : ∀ t, t < m → S t = true → Q (nI t)) (h0 : (∃ l, l < m ∧ S l = true ∧ ∀ q, q < 9 → O q l = false) → Q (-1)) : f_X7_tightest (mk S m) σ Q := by
  have hm := W.2.2.1
  unfold f_X7_tightest
  refine lf_3_2 m (by omega) (fun k x y => (x = -1 ∧ y = nI 10 ∧ ∀ l, l < k → S l = false) ∨ ∃ t, t < k ∧ S t = true ∧ x = nI t ∧ y = nI (fb_ct (fun q => O q t) 9)) (Nat.zero_le _) (Or.inl ⟨rfl, rfl, fun _ h => absurd h (Nat.not_lt_zero _)⟩) ?_ ?_
  · rintro rec k x y hk hI hrec
    rw [N.2.1]
    refine br_f (nI_ge hk (by omega)) ?_
    dsimp only [kk_j2]
    rw [z_bit0 _ (by omega), mk_bt _ _ (by omega)]
    constructor
    · intro z
      have z : S k = false := by simpa [hk] using z
      refine hrec _ _ ?_
      rcases hI with ⟨i1, i2, i3⟩ | ⟨t, i1, i2, i3, i4⟩
      · refine Or.inl ⟨i1, i2, fun l hl => ?_⟩
        by_cases e : l = k
        · rw [e]; exact z
        · exact i3 l (by omega)
      · exact Or.inr ⟨t, by omega, i2, i3, i4⟩
    · intro z
      have z : S k = true := by simpa [hk] using z
      refine lf_2_1 9 (by omega) (fun q v => v = nI (fb_ct (fun q => O q k) q)) (Nat.zero_le _) rfl ?_ ?_
      · rintro rec13 q _ hq rfl hrec13
        refine br_f (nI_ge (a := q) (b := 9) hq (by omega)) ⟨vp_lt (by omega) (by omega), ?_⟩
        rintro _ rfl
        refine hrec13 _ ?_
        rw [rd_nI (by omega), H q hq, z_bit _ (by omega), mk_bt _ _ (by omega), decide_eq_true hk, Bool.true_and, fb_ct_succ]
        cases O q k with
        | true => rw [if_pos rfl, if_pos rfl, nI_1]
        | false => exact Int32.add_zero _
      · rintro rec13 _ rfl
        refine br_t (nI_le (a := 9) (b := 9) (Nat.le_refl _) (by omega)) ?_
        have c9 := fb_ct_le (fun q => O q k) 9
        rcases hI with ⟨i1, i2, i3⟩ | ⟨t, i1, i2, i3, i4⟩
        · rw [i2]
          exact br_f (nI_ge (by omega) (by omega)) (hrec _ _ (Or.inr ⟨k, by omega, z, rfl, rfl⟩))
        · have t9 := fb_ct_le (fun q => O q t) 9
          rw [i4]
          constructor
          · intro _
            exact hrec _ _ (Or.inr ⟨t, by omega, i2, i3, rfl⟩)
          · intro _
            exact hrec _ _ (Or.inr ⟨k, by omega, z, rfl, rfl⟩)
  · rintro rec x y hI
    rw [N.2.1]
    refine br_t (nI_le (Nat.le_refl _) (by omega)) ?_
    dsimp only [kk_j1]
    rcases hI with ⟨i1, i2, i3⟩ | ⟨t, i1, i2, rfl, rfl⟩
    · exact absurd ((mk_eq0 (by omega)).mpr i3) hS
    · have t9 := fb_ct_le (fun q => O q t) 9
      refine ⟨fun _ => h1 t i1 i2, fun z => h0 ⟨t, i1, i2, ?_⟩⟩
      have z := (nI_ne (j := 0) (by omega) (by omega)).mp z
      exact fb_ct_zero.mp z
theorem sc_hasTwin (W : Wf n m a b) (H : OP m O σ) {q : Nat} (hq : q < 9) {Q : Int32 → Prop} (h1 : (∃ q', q' < q ∧ ∀ l, l < m → S l = true → O q' l = O q l) → Q 1) (h0 : Q 0) : f_X7_hasTwin (nI q) (mk S m) σ Q := by
  have hm := W.2.2.1
  unfold f_X7_hasTwin
  refine lf_1_0 q (by omega) (fun _ => True) (Nat.zero_le _) trivial ?_ ?_
  · rintro rec k hk _ hrec
    refine br_f (nI_ge hk (by omega)) ⟨vp_lt (by omega) (by omega), vp_lt (by omega) (by omega), ?_⟩
    rw [rd_nI (by omega), rd_nI (by omega), H k (by omega), H q hq, mk_xor, mk_and, mk_eq0 (by omega)]
    refine ⟨fun _ => hrec trivial, fun z => h1 ⟨k, hk, fun l hl hs => ?_⟩⟩
    have := z l hl
    rw [hs, Bool.and_true] at this
    cases x : O k l <;> cases y : O q l <;> simp_all
  · rintro rec _
    exact br_t (nI_le (Nat.le_refl _) (by omega)) h0
theorem half9 {x : Nat} (h : x ≤ 9) : nI x / (2 : Int32) = nI (x / 2) := (half x (by omega)).1
theorem sc_hopeless (N : RN n m a b σ) (W : Wf n m a b) (H : OP m O σ) {Q : Int32 → Prop} (h1 : ¬ exc m a b (LO O) S → Q 1) (h0 : Q 0) : f_X7_isHopeless (mk S m) σ Q := by
  have hm := W.2.2.1
  have hn := W.2.1
  unfold f_X7_isHopeless
  have room : ∀ R : Int32 → Prop, R (nI (sumN (fun q => pst n m a b (fun l => O q l && S l) / 2) 9)) → f_X7_roomOfColours (mk S m) σ R := by
    intro R hR
    unfold f_X7_roomOfColours
    refine lf_2_1 9 (by omega) (fun k x => x = nI (sumN (fun q => pst n m a b (fun l => O q l && S l) / 2) k)) (Nat.zero_le _) rfl ?_ ?_
    · rintro rec k _ hk rfl hrec
      refine br_f (nI_ge (a := k) (b := 9) hk (by omega)) ⟨vp_lt (by omega) (by omega), ?_⟩
      rw [rd_nI (by omega), H k hk, mk_and]
      refine sc_postsOf N hn hm ?_
      refine sp_bitCountM (by omega) ?_
      rintro _ rfl
      refine hrec _ ?_
      have : pst n m a b (fun l => O k l && S l) ≤ n := fb_ct_le _ _
      have e : fb_ct (fun p => anyb (fun l => (O k l && S l) && inc a b l p) m) n = pst n m a b (fun l => O k l && S l) := rfl
      rw [e, half9 (by omega), nI_add]
      rfl
    · rintro rec _ rfl
      exact br_t (nI_le (a := 9) (b := 9) (Nat.le_refl _) (by omega)) hR
  refine room _ ?_
  have rb : sumN (fun q => pst n m a b (fun l => O q l && S l) / 2) 9 ≤ n / 2 * 9 := sumN_le (fun q => by
    have : pst n m a b (fun l => O q l && S l) ≤ n := fb_ct_le _ _
    omega) 9
  refine sp_bitCountM (by omega) ?_
  have sb := fb_ct_le S m
  dsimp only [kk_j1, kk_j0]
  rcases Nat.lt_or_ge (sumN (fun q => pst n m a b (fun l => O q l && S l) / 2) 9) (fb_ct S m) with g | g
  · refine br_t (nI_lt g (by omega)) ⟨Or.inr rfl, h1 (fun ⟨f, f1, f2⟩ => ?_)⟩
    have := room_ok W (U := S) (f := f) (K := 9) (fun l hl hs => by
      have := f1 l hl hs
      simp only [LO, Bool.and_eq_true, decide_eq_true_eq] at this
      exact this.1) f2 (T := fun q p => anyb (fun l => (O q l && S l) && inc a b l p) m) (fun l hl hs => by
      have := f1 l hl hs
      simp only [LO, Bool.and_eq_true, decide_eq_true_eq] at this
      exact ⟨anyb_iff.mpr ⟨l, hl, by rw [this.2, hs, inc_iff.mpr (Or.inl rfl)]; rfl⟩, anyb_iff.mpr ⟨l, hl, by rw [this.2, hs, inc_iff.mpr (Or.inr rfl)]; rfl⟩⟩)
    have e : sumN (fun q => fb_ct (fun p => anyb (fun l => (O q l && S l) && inc a b l p) m) n / 2) 9 = sumN (fun q => pst n m a b (fun l => O q l && S l) / 2) 9 := rfl
    omega
  · refine br_f (nI_nlt g (by omega)) ?_
    unfold f_X7_hasCrampedPost
    refine lf_1_0 n (by omega) (fun _ => True) (Nat.zero_le _) trivial ?_ ?_
    · rintro rec p hp _ hrec
      rw [N.1]
      refine br_f (nI_ge hp (by omega)) ⟨vp_lt (by omega) (by omega), ?_⟩
      rw [rd_nI (by omega), N.2.2.2.2.2.2.1 p (by omega), mk_and]
      refine lf_2_1 9 (by omega) (fun k x => x = nI (fb_ct (fun q => anyb (fun l => O q l && (S l && inc a b l p)) m) k)) (Nat.zero_le _) rfl ?_ ?_
      · rintro rec5 q _ hq rfl hrec5
        refine br_f (nI_ge (a := q) (b := 9) hq (by omega)) ⟨vp_lt (by omega) (by omega), ?_⟩
        rw [rd_nI (by omega), H q hq, mk_and, mk_eq0 (by omega), ← anyb_no]
        dsimp only [kk_j1]
        refine ⟨fun z => hrec5 _ ?_, fun z => hrec5 _ ?_⟩
        · rw [fb_ct_succ, z]; rfl
        · have z : anyb (fun l => O q l && (S l && inc a b l p)) m = true := by simpa using z
          rw [fb_ct_succ, z, nI_1]; rfl
      · rintro rec5 _ rfl
        refine br_t (nI_le (a := 9) (b := 9) (Nat.le_refl _) (by omega)) ?_
        refine sp_bitCountM (by omega) ?_
        have b1 := fb_ct_le (fun q => anyb (fun l => O q l && (S l && inc a b l p)) m) 9
        have b2 := fb_ct_le (fun l => S l && inc a b l p) m
        refine ⟨fun _ => hrec trivial, fun z => br_f (by decide) ⟨Or.inr rfl, h1 (fun ⟨f, f1, f2⟩ => ?_)⟩⟩
        refine z (nI_le ?_ (by omega))
        exact post_ok (m := m) (a := a) (b := b) (U := fun l => S l && inc a b l p) (V := fun q => anyb (fun l => O q l && (S l && inc a b l p)) m) (f := f) (K := 9) (p := p) (fun l hl hs => by
          rw [Bool.and_eq_true] at hs
          have := f1 l hl hs.1
          simp only [LO, Bool.and_eq_true, decide_eq_true_eq] at this
          exact this.1) (fun i j hi hj u v hmt => by
          rw [Bool.and_eq_true] at u v
          exact f2 i j hi hj u.1 v.1 hmt) (fun l hl u => by
          rw [Bool.and_eq_true] at u
          exact u.2) (fun l hl u => by
          have u' := u
          rw [Bool.and_eq_true] at u
          have := f1 l hl u.1
          simp only [LO, Bool.and_eq_true, decide_eq_true_eq] at this
          exact anyb_iff.mpr ⟨l, hl, by rw [this.2, u.1, u.2]; rfl⟩)
    · rintro rec _
      rw [N.1]
      refine br_t (nI_le (Nat.le_refl _) (by omega)) (br_t rfl ⟨Or.inl rfl, h0⟩)
end
