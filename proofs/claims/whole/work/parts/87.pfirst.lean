/-! the second side's search: the first of all -/
section
variable {n m : Nat} {a b : Nat → Nat} {σ : kk_St} {c : Nat → Int32} {O : Nat → Nat → Bool} {S : Nat → Bool}
def pkk (S : Nat → Bool) (f : Nat → Nat) (k : Nat) : Nat → Int32 := fun l => if (decide (l < k) && S l) = true then nI (f l) else -1
theorem pkk_in {f : Nat → Nat} {k l : Nat} (h1 : l < k) (h2 : S l = true) : pkk S f k l = nI (f l) := if_pos (by rw [decide_eq_true h1, h2]; rfl)
theorem pkk_no {f : Nat → Nat} {k l : Nat} (h : ¬ (l < k ∧ S l = true)) : pkk S f k l = -1 := if_neg (fun z => h (by simpa using z))
theorem GO_pkk {f g : Nat → Nat} {k : Nat} (h : okc m a b (LO O) S g) (e : ∀ i, i < k → S i = true → g i = f i) : GO m a b O S (pkk S f k) g := by
  refine ⟨h, fun l hl hne => ?_⟩
  by_cases z : l < k ∧ S l = true
  · exact ⟨z.2, by rw [pkk_in z.1 z.2, e l z.1 z.2]⟩
  · exact absurd (pkk_no z) hne
theorem sm_picksFirst (M : RM n m a b c σ) (W : Wf n m a b) (A : AL m O σ) (al : alk m O σ) {Q : Int32 → kk_St → Prop} (h1 : ∀ f τ, fstc m a b (LO O) S f → frF [11, 12, 13, 14, 15] [23] σ τ → (∀ l, l < m → S l = true → τ.1 11 l = nI (f l)) → Q 1 τ) (h0 : ¬ exc m a b (LO O) S → ∀ τ, frF [11, 12, 13, 14, 15] [23] σ τ → Q 0 τ) : f_X11_picksFirst (mk S m) σ Q := by
  have hm := W.2.2.1
  have Mf : ∀ τ, frF [11, 12, 13, 14, 15] [23] σ τ → RM n m a b c τ := fun τ fr => RM_fr M fr (by simp) (by simp)
  have Af : ∀ τ, frF [11, 12, 13, 14, 15] [23] σ τ → AL m O τ := fun τ fr l hl => by rw [fr.1 10 (by simp) (by decide)]; exact A l hl
  have lf : ∀ τ, frF [11, 12, 13, 14, 15] [23] σ τ → alk m O τ := fun τ fr => by unfold alk; rw [fr.2.1 17 (by simp)]; exact al
  unfold f_X11_picksFirst
  refine lf_2_0 20 (by omega) (fun k τ => frF [11, 12, 13, 14, 15] [23] σ τ ∧ ∀ l, l < k → τ.1 11 l = -1) (Nat.zero_le _) ⟨frF_rf, fun _ h => absurd h (Nat.not_lt_zero _)⟩ ?_ ?_
  · rintro rec k τ hk ⟨fr, i1⟩ hrec
    refine br_f (nI_ge (a := k) (b := 20) hk (by omega)) ⟨vp_lt (by omega) (by omega), ?_⟩
    rintro _ rfl
    refine hrec _ ⟨frF_w fr (by simp) (by decide), fun p hp => ?_⟩
    rw [nI_clamp (by omega), wr_at, upd_if]
    by_cases e : p = k
    · rw [if_pos e]
    · rw [if_neg e]; exact i1 p (by omega)
  rintro rec τ0 ⟨fr0, i0⟩
  refine br_t (nI_le (a := 20) (b := 20) (Nat.le_refl _) (by omega)) ?_
  refine sm_canGoOn (pk := fun _ => -1) (Mf τ0 fr0) W (Af τ0 fr0) (lf τ0 fr0) (fun l hl => i0 l (by omega)) (fun _ _ => Or.inl rfl) (fun hx τ1 fr1 K1 => jn_t (by decide) ?_) (fun hx τ1 fr1 _ => jn_f rfl (h0 (fun ⟨f, hf⟩ => hx ⟨f, hf, fun _ _ h => absurd rfl h⟩) τ1 (frF_tr fr0 fr1)))
  refine lf_2_0 m (by omega) (fun k τ => frF [11, 12, 13, 14, 15] [23] σ τ ∧ ∃ f, PKc m (pkk S f k) τ ∧ (∀ l, l < k → S l = true → f l < 9) ∧ (∃ g, GO m a b O S (pkk S f k) g) ∧ ∀ g, okc m a b (LO O) S g → ∀ j, j < k → S j = true → (∀ i, i < j → S i = true → g i = f i) → f j ≤ g j) (Nat.zero_le _) ⟨frF_tr fr0 fr1, fun _ => 0, fun l hl => ?_, fun _ h => absurd h (Nat.not_lt_zero _), ?_, fun _ _ _ h => absurd h (Nat.not_lt_zero _)⟩ ?_ ?_
  · rw [pkk_no (fun z => Nat.not_lt_zero _ z.1)]; exact K1 l hl
  · obtain ⟨g, hg⟩ := hx
    exact ⟨g, GO_pkk hg.1 (fun _ h => absurd h (Nat.not_lt_zero _))⟩
  · rintro rec8 k τ hk ⟨fr, f, K, f9, hG, mn⟩ hrec8
    have Mk := Mf τ fr
    rw [Mk.2.1]
    refine br_f (nI_ge hk (by omega)) ?_
    refine sp_hasM hk (by omega) ?_
    dsimp only [kk_j1]
    cases z : S k with
    | false =>
      have eq : pkk S f (k + 1) = pkk S f k := by
        funext l
        unfold pkk
        by_cases e : l = k
        · rw [e, z, Bool.and_false, Bool.and_false]
        · by_cases y : l < k
          · rw [decide_eq_true y, decide_eq_true (show l < k + 1 by omega)]
          · rw [decide_eq_false y, decide_eq_false (show ¬ l < k + 1 by omega)]
      have nk : ∀ l, l < k + 1 → S l = true → l < k := fun l hl hs => by
        rcases Nat.lt_or_ge l k with y | y
        · exact y
        · rw [show l = k by omega, z] at hs; cases hs
      refine jn_f rfl (hrec8 _ ⟨fr, f, by rw [eq]; exact K, fun l hl hs => f9 l (nk l hl hs) hs, by rw [eq]; exact hG, fun g hg j hj hs => mn g hg j (nk j hj hs) hs⟩)
    | true =>
      refine jn_t (by decide) ⟨vp_lt (by omega) (by omega), ?_⟩
      rw [rd_nI (by omega), Af τ fr k hk]
      have kk : pkk S f k k = -1 := pkk_no (fun y => Nat.lt_irrefl _ y.1)
      refine lpG3 (fun N v3 v4 θ => frF [11, 12, 13, 14, 15] [23] σ θ ∧ ((v4 = 1 ∧ ∃ q, q < 9 ∧ PKc m (upd (pkk S f k) k (nI q)) θ ∧ (∃ g, GO m a b O S (upd (pkk S f k) k (nI q)) g) ∧ ∀ g, GO m a b O S (pkk S f k) g → q ≤ g k) ∨ (v4 = 0 ∧ ∃ e, v3 = mk (fun q => O q k && decide (e ≤ q)) 9 ∧ (∀ l, l < m → l ≠ k → θ.1 11 l = pkk S f k l) ∧ (∀ g, GO m a b O S (pkk S f k) g → e ≤ g k) ∧ N = 10 - e))) ?_ (N := 10) ⟨fr, Or.inr ⟨rfl, 0, mk_cong (fun q _ => by simp), fun l hl _ => K l hl, fun _ _ => Nat.zero_le _, rfl⟩⟩
      rintro rec15 N v3 v4 θ ⟨fθ, hI⟩ hrec15
      rcases hI with ⟨rfl, q, hq, Kq, Gq, mq⟩ | ⟨rfl, e, rfl, Kθ, me, rfl⟩
      · have eq : ∀ l, upd (pkk S f k) k (nI q) l = pkk S (fun l => if l = k then q else f l) (k + 1) l := fun l => by
          rw [upd_if]
          by_cases y : l = k
          · subst y
            rw [if_pos rfl, pkk_in (by omega) z, if_pos rfl]
          · rw [if_neg y]
            unfold pkk
            dsimp only
            rw [if_neg y]
            by_cases y2 : l < k
            · rw [decide_eq_true y2, decide_eq_true (show l < k + 1 by omega)]
            · rw [decide_eq_false y2, decide_eq_false (show ¬ l < k + 1 by omega)]
        refine jn_t (by decide) (hrec8 _ ⟨fθ, fun l => if l = k then q else f l, fun l hl => by rw [← eq l]; exact Kq l hl, fun l hl hs => ?_, by rw [← funext eq]; exact Gq, fun g hg j hj hs h => ?_⟩)
        · dsimp only
          by_cases y : l = k
          · rw [if_pos y]; exact hq
          · rw [if_neg y]; exact f9 l (by omega) hs
        · have lo : ∀ i, i < k → (fun l => if l = k then q else f l) i = f i := fun i hi => if_neg (by omega)
          by_cases y : j = k
          · subst y
            dsimp only
            rw [if_pos rfl]
            exact mq g (GO_pkk hg (fun i hi hs' => (h i hi hs').trans (lo i hi)))
          · rw [lo j (by omega)]
            exact mn g hg j (by omega) hs (fun i hi hs' => (h i hi hs').trans (lo i (by omega)))
      · obtain ⟨g0, hg0⟩ := hG
        obtain ⟨g9, gO⟩ := LO_lt (hg0.1.1 k hk z)
        have ge := me g0 hg0
        obtain ⟨t, t1, t2, t3⟩ : ∃ t, t < 9 ∧ (O t k && decide (e ≤ t)) = true ∧ ∀ j, j < t → (O j k && decide (e ≤ j)) = false := by
          rcases fst_ex (fun q => O q k && decide (e ≤ q)) 9 with h | h
          · exact h
          · have := h _ g9
            rw [gO, decide_eq_true ge] at this
            cases this
        have te : O t k = true ∧ e ≤ t := by simpa using t2
        have tm : ∀ g, GO m a b O S (pkk S f k) g → t ≤ g k := fun g hg => by
          rcases Nat.lt_or_ge (g k) t with y | y
          · have := t3 _ y
            rw [(LO_lt (hg.1.1 k hk z)).2, decide_eq_true (me g hg)] at this
            cases this
          · exact y
        refine jn_f rfl ?_
        refine sp_lowestOfM (by omega) t1 t2 t3 ⟨vp_lt (by omega) (by omega), ?_⟩
        rintro _ rfl
        rw [(mk_low _).2]
        rintro _ rfl
        have ev : mk (fun q => (O q k && decide (e ≤ q)) && anyb (fun q => O q k && decide (e ≤ q)) q) 9 = mk (fun q => O q k && decide (t + 1 ≤ q)) 9 := mk_cong (fun q _ => by
          by_cases y : t + 1 ≤ q
          · rw [decide_eq_true y, decide_eq_true (show e ≤ q by omega), anyb_iff.mpr ⟨t, by omega, t2⟩, Bool.and_true]
          · rw [decide_eq_false y, Bool.and_false]
            by_cases y2 : q = t
            · rw [y2, anyb_no.mpr t3, Bool.and_false]
            · rw [t3 q (by omega)]; rfl)
        rw [ev, nI_clamp (show k < 2 ^ 31 by omega)]
        have f17 : frF [11, 12, 13, 14, 15] [23] σ (kk_wr θ 11 k (nI t)) := frF_w fθ (by simp) (by decide)
        refine sm_canGoOn (pk := upd (pkk S f k) k (nI t)) (Mf _ f17) W (Af _ f17) (lf _ f17) (fun l hl => ?_) (fun l hl => ?_) (fun hx τ' fr' K' => ?_) (fun hx τ' fr' K' => ?_)
        · rw [wr_at, upd_if, upd_if]
          by_cases y : l = k
          · rw [if_pos y, if_pos y]
          · rw [if_neg y, if_neg y]; exact Kθ l hl y
        · rw [upd_if]
          by_cases y : l = k
          · rw [if_pos y]; exact Or.inr ⟨by rw [y]; exact z, t, t1, rfl⟩
          · rw [if_neg y]
            by_cases y2 : l < k ∧ S l = true
            · rw [pkk_in y2.1 y2.2]; exact Or.inr ⟨y2.2, f l, f9 l y2.1 y2.2, rfl⟩
            · exact Or.inl (pkk_no y2)
        · refine hrec15 0 _ _ _ (by omega) ⟨frF_tr f17 fr', Or.inl ⟨rfl, t, t1, K', hx, tm⟩⟩
        · refine hrec15 (10 - (t + 1)) _ _ _ (by omega) ⟨frF_tr f17 fr', Or.inr ⟨rfl, t + 1, rfl, fun l hl ne => by rw [K' l hl, upd_ne _ _ ne], fun g hg => ?_, rfl⟩⟩
          have := tm g hg
          rcases Nat.lt_or_ge t (g k) with y | y
          · exact y
          · have eg : g k = t := by omega
            exact absurd ⟨g, by rw [← eg]; exact GO_add hg z⟩ hx
  · rintro rec8 τ ⟨fr, f, K, f9, ⟨g, hg⟩, mn⟩
    have Mk := Mf τ fr
    rw [Mk.2.1]
    have eq : ∀ l, l < m → S l = true → g l = f l := fun l hl hs => by
      have h2 := (hg.2 l hl (by rw [pkk_in hl hs]; exact nI_ne_m1 (by have := f9 l hl hs; omega))).2
      rw [pkk_in hl hs] at h2
      have g9 := (LO_lt (hg.1.1 l hl hs)).1
      have f9 := f9 l hl hs
      exact ((nI_ne (by omega) (by omega)).mp h2).symm
    refine br_t (nI_le (Nat.le_refl _) (by omega)) (h1 f τ ⟨⟨fun l hl hs => ?_, fun i j hi hj s1 s2 hmt => ?_⟩, fun g' hg' k hk hs h => mn g' hg' k hk hs h⟩ fr (fun l hl hs => by rw [K l hl, pkk_in hl hs]))
    · rw [← eq l hl hs]; exact hg.1.1 l hl hs
    · rw [← eq i hi s1, ← eq j hj s2]; exact hg.1.2 i j hi hj s1 s2 hmt
theorem DgS_cong {S S' : Nat → Bool} (h : ∀ l, l < m → S l = S' l) : DgS n m a b S = DgS n m a b S' := mx_cong (fun p _ => fb_ct_cong (fun l hl => by rw [h l hl]))
theorem bt_mk (hm : m ≤ 20) {l : Nat} (hl : l < m) : bt (mk S m) l = S l := by
  rw [mk_bt _ _ (by omega), decide_eq_true hl, Bool.true_and]
theorem low_ones {k : Nat} (hk : k ≤ 9) : ((1 : Int32) <<< (nI k &&& 31)) - 1 = mk (fun q => decide (q < k)) 9 := by
  rw [mk_ones (by omega)]
  have e : mk (fun _ => true) k = mk (fun q => decide (q < k)) k := mk_cong (fun q hq => (decide_eq_true hq).symm)
  rw [e]
  exact mk_grow hk (fun q h _ => decide_eq_false (by omega))
theorem sm_laysFirst (M : RM n m a b c σ) (W : Wf n m a b) {k : Nat} (hk : k ≤ 9) {Q : Int32 → kk_St → Prop} (h1 : ∀ f τ, fstc m a b (Lk k) S f → frF [10, 11, 12, 13, 14, 15] [17, 23] σ τ → (∀ l, l < m → S l = true → τ.1 11 l = nI (f l)) → Q 1 τ) (h0 : ¬ exc m a b (Lk k) S → ∀ τ, frF [10, 11, 12, 13, 14, 15] [17, 23] σ τ → Q 0 τ) : f_X11_laysFirst (mk S m) (nI k) σ Q := by
  have hm := W.2.2.1
  unfold f_X11_laysFirst
  refine sm_degreeOf M W ?_
  rw [DgS_cong (S' := S) (fun l hl => bt_mk hm hl)]
  have dm : DgS n m a b S ≤ m := mx_le (fun p _ => fb_ct_le _ _)
  rcases Nat.lt_or_ge k (DgS n m a b S) with g | g
  · exact br_f (nI_ge g (by omega)) (h0 (no_deg g) σ frF_rf)
  · refine br_t (nI_le g (by omega)) ?_
    rw [low_ones hk]
    refine lf_2_0 20 (by omega) (fun i τ => frF [10, 11, 12, 13, 14, 15] [17, 23] σ τ ∧ ∀ l, l < i → τ.1 10 l = mk (fun q => decide (q < k)) 9) (Nat.zero_le _) ⟨frF_rf, fun _ h => absurd h (Nat.not_lt_zero _)⟩ ?_ ?_
    · rintro rec i τ hi ⟨fr, i1⟩ hrec
      refine br_f (nI_ge (a := i) (b := 20) hi (by omega)) ⟨vp_lt (by omega) (by omega), ?_⟩
      rintro _ rfl
      refine hrec _ ⟨frF_w fr (by simp) (by decide), fun p hp => ?_⟩
      rw [nI_clamp (by omega), wr_at, upd_if]
      by_cases e : p = i
      · rw [if_pos e]
      · rw [if_neg e]; exact i1 p (by omega)
    · rintro rec τ ⟨fr, i1⟩
      refine br_t (nI_le (a := 20) (b := 20) (Nat.le_refl _) (by omega)) ?_
      rintro _ rfl
      have fr' : frF [10, 11, 12, 13, 14, 15] [17, 23] σ (kk_wr τ 0 17 1) := frF_tr fr (frF_f (by simp))
      refine sm_picksFirst (O := fun q _ => decide (q < k)) (RM_fr M fr' (by simp) (by simp)) W (fun l hl => by rw [wr_ne _ _ _ (by decide)]; exact i1 l (by omega)) (Or.inr ⟨by rw [wr_at, upd_at], fun _ _ _ _ _ => rfl⟩) (fun f τ' hf g' hl => ⟨Or.inr rfl, ?_⟩) (fun hx τ' g' => ⟨Or.inl rfl, ?_⟩)
      · rw [LO_Lk hk] at hf
        exact h1 f τ' hf (frF_tr fr' (frF_mono g' (by simp) (by simp))) hl
      · rw [LO_Lk hk] at hx
        exact h0 hx τ' (frF_tr fr' (frF_mono g' (by simp) (by simp)))
theorem sm_indexOf (M : RM n m a b c σ) (W : Wf n m a b) {Q : Int32 → kk_St → Prop} (hD : DgS n m a b S ≤ 9) (h : ∀ τ, frF [10, 11, 12, 13, 14, 15] [17, 23] σ τ → Q (nI (ixS n m a b S)) τ) : f_X11_indexOf (mk S m) σ Q := by
  have hm := W.2.2.1
  unfold f_X11_indexOf
  refine sm_degreeOf M W ?_
  rw [DgS_cong (S' := S) (fun l hl => bt_mk hm hl)]
  dsimp only [kk_j1]
  refine sm_laysFirst M W hD (fun f τ hf fr _ => br_f (by decide) ?_) (fun hx τ fr => br_t rfl ?_)
  · rw [← ixS_t ⟨f, hf.1⟩]; exact h τ fr
  · rw [nI_1, ← ixS_f hx]; exact h τ fr
theorem DgS_le (S : Nat → Bool) : DgS n m a b S ≤ Dg n m a b := mx_le (fun p hp => Nat.le_trans (fb_ct_sub (q := fun k => inc a b k p) (fun l _ h => (Bool.and_eq_true _ _ ▸ h).2)) (dg_le_Dg hp))
end
