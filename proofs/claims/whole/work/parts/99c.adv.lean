/-! turning each chain: marks -/
def SN (A : Nat) (S : Nat → Bool) (σ : kk_St) : Prop := ∀ w, w < 128 → σ.1 A w = mk (fun j => S (32 * w + j)) 32
def MKD (S X S' X' : Nat → Bool) (D : Nat → Prop) : Prop := ∀ d, d < 4096 → (S' d = true ↔ S d = true ∨ D d) ∧ (X' d = true ↔ X d = true ∨ (D d ∧ S d = false))
theorem MKD_rf {S X : Nat → Bool} {D : Nat → Prop} (h : ∀ d, ¬ D d) : MKD S X S X D := fun d _ => ⟨⟨fun z => Or.inl z, fun z => z.elim id (fun y => absurd y (h d))⟩, ⟨fun z => Or.inl z, fun z => z.elim id (fun y => absurd y.1 (h d))⟩⟩
theorem MKD_tr {S X S1 X1 S2 X2 : Nat → Bool} {D1 D2 D : Nat → Prop} (h1 : MKD S X S1 X1 D1) (h2 : MKD S1 X1 S2 X2 D2) (hD : ∀ d, d < 4096 → (D d ↔ D1 d ∨ D2 d)) : MKD S X S2 X2 D := by
  intro d hd
  obtain ⟨a1, a2⟩ := h1 d hd
  obtain ⟨b1, b2⟩ := h2 d hd
  have f1 : S1 d = false ↔ ¬ (S d = true ∨ D1 d) := by
    rw [← a1]; cases S1 d <;> simp
  rw [b1, b2, a1, a2, f1, hD d hd]
  constructor
  · constructor
    · rintro ((z | z) | z)
      · exact Or.inl z
      · exact Or.inr (Or.inl z)
      · exact Or.inr (Or.inr z)
    · rintro (z | z | z)
      · exact Or.inl (Or.inl z)
      · exact Or.inl (Or.inr z)
      · exact Or.inr z
  · constructor
    · rintro ((z | z) | ⟨z1, z2⟩)
      · exact Or.inl z
      · exact Or.inr ⟨Or.inl z.1, z.2⟩
      · refine Or.inr ⟨Or.inr z1, ?_⟩
        cases y : S d with
        | false => rfl
        | true => exact absurd (Or.inl y) z2
    · rintro (z | ⟨z1 | z1, z2⟩)
      · exact Or.inl (Or.inl z)
      · exact Or.inl (Or.inr ⟨z1, z2⟩)
      · by_cases y : D1 d
        · exact Or.inl (Or.inr ⟨y, z2⟩)
        · exact Or.inr ⟨z1, fun x => x.elim (fun u => by rw [z2] at u; cases u) y⟩
theorem MKD_cong {S X S' X' : Nat → Bool} {D D' : Nat → Prop} (h : MKD S X S' X' D) (hD : ∀ d, d < 4096 → (D d ↔ D' d)) : MKD S X S' X' D' := fun d hd => by
  rw [← hD d hd]; exact h d hd
section
variable {n m : Nat} {a b : Nat → Nat} {σ : kk_St} {S X : Nat → Bool}
theorem code_w {c : Nat} (hc : c < 4096) : nI c >>> ((5 : Int32) &&& 31) = nI (c / 32) := z_sshr (a := c) (s := 5) (by omega) (by omega)
theorem code_b {c : Nat} : nI c &&& (31 : Int32) = nI (c % 32) := by
  rw [show (31 : Int32) = nI 31 from rfl, fa_and]
  congr 1
  exact Nat.and_two_pow_sub_one_eq_mod c 5
theorem sc_isSeen (H : SN 28 S σ) {c : Nat} (hc : c < 4096) {Q : Int32 → Prop} (h : Q (bI (S c))) : f_X9_isSeen (nI c) σ Q := by
  unfold f_X9_isSeen
  rw [code_w hc, code_b, rd_nI (by omega), H (c / 32) (by omega), z_bit0 _ (by omega), mk_bt _ _ (by omega), decide_eq_true (show c % 32 < 32 by omega), Bool.true_and, show 32 * (c / 32) + c % 32 = c by omega]
  refine ⟨vp_lt (by omega) (by omega), ?_⟩
  dsimp only [kk_j1]
  cases z : S c with
  | false => rw [z] at h; exact br_t rfl ⟨Or.inl rfl, h⟩
  | true => rw [z] at h; exact br_f (by decide) ⟨Or.inr rfl, h⟩
theorem SN_set {A c : Nat} {σ τ : kk_St} (H : SN A S σ) (hc : c < 4096) (he : τ.1 A = upd (σ.1 A) (c / 32) (σ.1 A (c / 32) ||| ((1 : Int32) <<< (nI (c % 32) &&& 31)))) : SN A (fun d => S d || decide (d = c)) τ := by
  intro w hw
  rw [he, upd_if]
  by_cases e : w = c / 32
  · rw [if_pos e, H _ (by omega), mk_set (by omega) (by omega)]
    refine mk_cong (fun j hj => ?_)
    rw [e]
    congr 1
    by_cases e2 : j = c % 32
    · rw [decide_eq_true e2, decide_eq_true (by omega)]
    · rw [decide_eq_false e2, decide_eq_false (by omega)]
  · rw [if_neg e, H w hw]
    refine mk_cong (fun j hj => ?_)
    dsimp only
    rw [decide_eq_false (show ¬ 32 * w + j = c by omega), Bool.or_false]
theorem sc_mark (H : SN 28 S σ) (H' : SN 30 X σ) {c : Nat} (hc : c < 4096) {Q : kk_St → Prop} (h : ∀ τ S' X', frL [28, 30] σ τ → SN 28 S' τ → SN 30 X' τ → MKD S X S' X' (fun d => d = c) → Q τ) : f_X9_mark (nI c) σ Q := by
  unfold f_X9_mark
  refine sc_isSeen H hc ?_
  dsimp only [kk_j1]
  refine bI_nz (fun z => ?_) (fun z => ?_)
  · refine h σ S X frL_rf H H' (fun d hd => ⟨⟨fun y => Or.inl y, fun y => ?_⟩, ⟨fun y => Or.inl y, fun y => ?_⟩⟩)
    · rcases y with y | y
      · exact y
      · rw [y]; exact z
    · rcases y with y | ⟨y1, y2⟩
      · exact y
      · rw [y1, z] at y2; cases y2
  · rw [code_w hc, code_b]
    refine ⟨vp_lt (by omega) (by omega), vp_lt (by omega) (by omega), ?_⟩
    rintro _ rfl
    rw [nI_clamp (by omega), rd_nI (by omega)]
    refine ⟨vp_lt (by omega) (by omega), vp_lt (by omega) (by omega), ?_⟩
    rintro _ rfl
    rw [rd_nI (by omega), wr_ne _ _ _ (show 30 ≠ 28 by decide)]
    refine h _ (fun d => S d || decide (d = c)) (fun d => X d || decide (d = c)) (frL_tr (frL_wr (by simp)) (frL_wr (by simp))) (SN_set H hc ?_) (SN_set H' hc ?_) (fun d hd => ⟨by simp, ?_⟩)
    · rw [wr_ne _ _ _ (show 28 ≠ 30 by decide), wr_at]
    · rw [wr_at, wr_ne _ _ _ (show 30 ≠ 28 by decide)]
    · rw [Bool.or_eq_true, decide_eq_true_eq]
      constructor
      · rintro (y | y)
        · exact Or.inl y
        · exact Or.inr ⟨y, by rw [y]; exact z⟩
      · rintro (y | ⟨y, _⟩)
        · exact Or.inl y
        · exact Or.inr y
/-- what comes of a code by one turn -/
def suc (m : Nat) (a b : Nat → Nat) (k c d : Nat) : Prop := d < 4 ^ m ∧ tsp m a b k (dgt 4 c) (dgt 4 d)
def sc3 (m : Nat) (a b : Nat → Nat) (c o w l d : Nat) : Prop := l < m ∧ pol (dgt 4 c) o w l = true ∧ d = en 4 (fl (dgt 4 c) (cmpn m a b (dgt 4 c) o w l) o w) m
theorem fl_lt {c o w : Nat} {C : Nat → Bool} (ho : o < 4) (hw : w < 4) (l : Nat) : fl (dgt 4 c) C o w l < 4 := by
  have := dgt_lt (B := 4) (c := c) (l := l) (by omega)
  unfold fl
  split
  · split <;> omega
  · exact this
theorem suc_iff {k c d : Nat} (hk : k ≤ 4) : suc m a b k c d ↔ ∃ o w l, o < w ∧ w < k ∧ sc3 m a b c o w l d := by
  constructor
  · rintro ⟨hd, o, w, l, h1, h2, h3, h4, h5⟩
    refine ⟨o, w, l, h1, h2, h3, h4, ?_⟩
    rw [← en_cong h5, dgt_en' hd]
  · rintro ⟨o, w, l, h1, h2, h3, h4, rfl⟩
    refine ⟨en_lt (fun l _ => fl_lt (by omega) (by omega) l), o, w, l, h1, h2, h3, h4, fun j hj => ?_⟩
    exact en_dgt (by omega) (fun l _ => fl_lt (by omega) (by omega) l) j hj
theorem sc_turnEach (N : RN n m a b σ) (W : Wf n m a b) (hm : m ≤ 6) (H : SN 28 S σ) (H' : SN 30 X σ) (T : MT m a b σ) {k c : Nat} (hk : k ≤ 4) (hK : σ.1 10 5 = nI k) (hc : c < 4 ^ m) {Q : kk_St → Prop} (h : ∀ τ S' X', frL [28, 30] σ τ → SN 28 S' τ → SN 30 X' τ → MKD S X S' X' (suc m a b k c) → Q τ) : f_X9_turnEach (nI c) σ Q := by
  have p4 := p4_le hm
  unfold f_X9_turnEach
  refine lf_2_0 k (by omega) (fun o τ => frL [28, 30] σ τ ∧ ∃ S' X', SN 28 S' τ ∧ SN 30 X' τ ∧ MKD S X S' X' (fun d => ∃ o' w l, o' < o ∧ o' < w ∧ w < k ∧ sc3 m a b c o' w l d)) (Nat.zero_le _) ⟨frL_rf, S, X, H, H', MKD_rf (fun d ⟨o', _, _, h, _⟩ => absurd h (Nat.not_lt_zero _))⟩ ?_ ?_
  · rintro rec o τ ho ⟨fr, S1, X1, A1, B1, D1⟩ hrec
    have k1 : τ.1 10 5 = nI k := by rw [fr.1 10 (by simp)]; exact hK
    rw [k1, nI_1]
    have hrec' := hrec
    rw [nI_1] at hrec'
    refine br_f (nI_ge ho (by omega)) ?_
    refine lf_2_0 k (by omega) (fun w ρ => o < w ∧ frL [28, 30] σ ρ ∧ ∃ S' X', SN 28 S' ρ ∧ SN 30 X' ρ ∧ MKD S X S' X' (fun d => (∃ o' w l, o' < o ∧ o' < w ∧ w < k ∧ sc3 m a b c o' w l d) ∨ ∃ w' l, o < w' ∧ w' < w ∧ sc3 m a b c o w' l d)) (k0 := o + 1) (by omega) ⟨by omega, fr, S1, X1, A1, B1, MKD_cong D1 (fun d _ => ⟨fun z => Or.inl z, fun z => by
      rcases z with z | ⟨w', l, z1, z2, _⟩
      · exact z
      · omega⟩)⟩ ?_ ?_
    · rintro rec6 w ρ hw ⟨ow, fρ, S2, X2, A2, B2, D2⟩ hrec6
      have k2 : ρ.1 10 5 = nI k := by rw [fρ.1 10 (by simp)]; exact hK
      have Nρ := RN_fr N fρ (by simp)
      rw [k2]
      refine br_f (nI_ge hw (by omega)) ?_
      refine sc_linesWith Nρ hm hc (show o < 4 by omega) ?_
      refine sc_linesWith Nρ hm hc (show w < 4 by omega) ?_
      rw [m4_or]
      have epol : m4 m (fun l => decide (dgt 4 c l = o) || decide (dgt 4 c l = w)) = m4 m (pol (dgt 4 c) o w) := rfl
      rw [epol]
      dsimp only [kk_j1]
      refine kk_lpI3 (fun v i θ => frL [28, 30] σ θ ∧ ∃ (Rs : Nat → Bool) (u : Nat) (S' X' : Nat → Bool), v = m4 m Rs ∧ i = nI u ∧ (∀ l, l < m → Rs l = true → pol (dgt 4 c) o w l = true) ∧ fb_ct Rs m + u ≤ 6 ∧ SN 28 S' θ ∧ SN 30 X' θ ∧ MKD S X S' X' (fun d => ((∃ o' w l, o' < o ∧ o' < w ∧ w < k ∧ sc3 m a b c o' w l d) ∨ ∃ w' l, o < w' ∧ w' < w ∧ sc3 m a b c o w' l d) ∨ ∃ l, Rs l = false ∧ sc3 m a b c o w l d)) (fun _ i _ => 6 - i.toNatClampNeg) ?_ ⟨fρ, pol (dgt 4 c) o w, 0, S2, X2, rfl, rfl, fun _ _ h => h, by have := fb_ct_le (pol (dgt 4 c) o w) m; omega, A2, B2, MKD_cong D2 (fun d _ => ⟨fun z => Or.inl z, fun z => by
        rcases z with z | ⟨l, z1, _, z2, _⟩
        · exact z
        · rw [z1] at z2; cases z2⟩)⟩
      rintro rec14 _ _ θ ⟨fθ, Rs, u, S3, X3, rfl, rfl, r1, r2, A3, B3, D3⟩ hrec14
      have done : (∀ l, l < m → Rs l = false) → rec6 (nI w + 1) θ := fun hz => hrec6 _ ⟨by omega, fθ, S3, X3, A3, B3, MKD_cong D3 (fun d _ => ⟨fun z => ?_, fun z => ?_⟩)⟩
      rotate_left
      · rcases z with (z | ⟨w', l, z1, z2, z3⟩) | ⟨l, z1, z2⟩
        · exact Or.inl z
        · exact Or.inr ⟨w', l, z1, by omega, z3⟩
        · exact Or.inr ⟨w, l, ow, by omega, z2⟩
      · rcases z with z | ⟨w', l, z1, z2, z3⟩
        · exact Or.inl (Or.inl z)
        · by_cases e : w' = w
          · rw [e] at z3; exact Or.inr ⟨l, hz l z3.1, z3⟩
          · exact Or.inl (Or.inr ⟨w', l, z1, by omega, z3⟩)
      by_cases u6 : u = 6
      · refine br_t (by rw [u6]; exact nI_le (a := 6) (Nat.le_refl _) (by omega)) (done ?_)
        exact fb_ct_zero.mp (by omega)
      · refine br_f (nI_ge (b := 6) (show u < 6 by omega) (by omega)) ?_
        rcases fst_ex Rs m with ⟨t, ht, t1, t0⟩ | t0
        · have hne : ¬ m4 m Rs = 0 := fun z => by
            have := (m4_eq0 hm).mp z t ht
            rw [t1] at this; cases this
          have tp := r1 t ht t1
          refine br_f hne (sp_low4 hm ht t1 t0 ?_)
          refine sc_joinedIn hm (fun l hl => by rw [fθ.1 27 (by simp)]; exact T l hl) ht tp ?_
          rintro _ rfl
          rw [m4_andn, turn4 hm hc (by omega) (by omega) (fun l _ hl => pol_iff.mp (rch_pool hl))]
          have lt : en 4 (fl (dgt 4 c) (rch m a b (pol (dgt 4 c) o w) (fun k => decide (k = t))) o w) m < 4 ^ m := en_lt (fun l _ => fl_lt (by omega) (by omega) l)
          refine sc_mark A3 B3 (Nat.lt_of_lt_of_le lt p4) (fun θ' S4 X4 f4 A4 B4 D4 => hrec14 _ _ _ ⟨frL_tr fθ f4, _, u + 1, S4, X4, rfl, nI_1 u, fun l hl z => ?_, ?_, A4, B4, MKD_tr D3 D4 (fun d _ => ⟨fun z => ?_, fun z => ?_⟩)⟩ (by rw [nI_1, nI_clamp (by omega), nI_clamp (by omega)]; omega))
          · simp only [Bool.and_eq_true] at z
            exact r1 l hl z.1
          · have tc : ch m a b (pol (dgt 4 c) o w) t t = true := ch_rf ht tp
            have tc : rch m a b (pol (dgt 4 c) o w) (fun k => decide (k = t)) t = true := tc
            have := ct_strict (p := fun l => Rs l && !rch m a b (pol (dgt 4 c) o w) (fun k => decide (k = t)) l) (q := Rs) (x := t) (n := m) (fun l _ z => by simp only [Bool.and_eq_true] at z; exact z.1) ht (by rw [tc]; simp) t1
            omega
          · rcases z with z | ⟨l, z1, z2⟩
            · exact Or.inl (Or.inl z)
            · cases y : Rs l with
              | false => exact Or.inl (Or.inr ⟨l, y, z2⟩)
              | true =>
                rw [y, Bool.true_and, Bool.not_eq_false'] at z1
                have sm := ch_same (m := m) (a := a) (b := b) (P := pol (dgt 4 c) o w) (l := t) (k := l) z1
                refine Or.inr ?_
                rw [z2.2.2]
                refine en_cong (fun j _ => ?_)
                have e : cmpn m a b (dgt 4 c) o w l j = rch m a b (pol (dgt 4 c) o w) (fun k => decide (k = t)) j := (sm j).symm
                unfold fl
                rw [e]
          · rcases z with (z | ⟨l, z1, z2⟩) | z
            · exact Or.inl z
            · exact Or.inr ⟨l, by rw [z1]; rfl, z2⟩
            · refine Or.inr ⟨t, ?_, ht, tp, z⟩
              have tc : rch m a b (pol (dgt 4 c) o w) (fun k => decide (k = t)) t = true := ch_rf ht tp
              rw [tc]; simp
        · exact br_t ((m4_eq0 hm).mpr t0) (done t0)
    · rintro rec6 ρ ⟨ow, fρ, S2, X2, A2, B2, D2⟩
      have k2 : ρ.1 10 5 = nI k := by rw [fρ.1 10 (by simp)]; exact hK
      rw [k2]
      refine br_t (nI_le (Nat.le_refl _) (by omega)) (hrec' _ ⟨fρ, S2, X2, A2, B2, MKD_cong D2 (fun d _ => ⟨fun z => ?_, fun z => ?_⟩)⟩)
      · rcases z with ⟨o', w, l, z1, z2, z3, z4⟩ | ⟨w', l, z1, z2, z3⟩
        · exact ⟨o', w, l, by omega, z2, z3, z4⟩
        · exact ⟨o, w', l, by omega, z1, z2, z3⟩
      · obtain ⟨o', w, l, z1, z2, z3, z4⟩ := z
        by_cases e : o' = o
        · rw [e] at z2 z4; exact Or.inr ⟨w, l, z2, z3, z4⟩
        · exact Or.inl ⟨o', w, l, by omega, z2, z3, z4⟩
  · rintro rec τ ⟨fr, S1, X1, A1, B1, D1⟩
    have k1 : τ.1 10 5 = nI k := by rw [fr.1 10 (by simp)]; exact hK
    rw [k1]
    refine br_t (nI_le (Nat.le_refl _) (by omega)) (h τ S1 X1 fr A1 B1 (MKD_cong D1 (fun d _ => ?_)))
    rw [suc_iff hk]
    exact ⟨fun ⟨o', w, l, z1, z2, z3, z4⟩ => ⟨o', w, l, z2, z3, z4⟩, fun ⟨o', w, l, z2, z3, z4⟩ => ⟨o', w, l, by omega, z2, z3, z4⟩⟩
end
