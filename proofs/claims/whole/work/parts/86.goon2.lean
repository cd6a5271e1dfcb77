/-! the second side's search: going on, the whole of it -/
theorem go_split {I BIG : Int32 → kk_St → Prop} {B : (kk_St → Prop) → Prop} {C : Prop → Prop} {r : Int32} {s8 : kk_St} (hL : ∀ t s, I t s → BIG t s) (h1 : r = -1 → I 1 s8) (h0 : ¬ r = -1 → ∀ X : kk_St → Prop, (∀ s, I 0 s → X s) → C ((¬ (0 : Int32) = 0 → X s8) ∧ ((0 : Int32) = 0 → B X))) : kk_j1 (fun t => kk_j0 (kk_j1 (fun s => BIG t s) (fun J => (¬ t = 0 → J s8) ∧ (t = 0 → B J))) (fun J => (¬ t = 0 → J) ∧ (t = 0 → C J))) (fun J => (¬ r = -1 → J 0) ∧ (r = -1 → J 1)) := by
  dsimp only [kk_j0, kk_j1]
  exact ⟨fun hr => ⟨fun z => absurd rfl z, fun _ => h0 hr (BIG 0) (hL 0)⟩, fun hr => ⟨fun _ => ⟨fun _ => hL 1 s8 (h1 hr), fun z => absurd z (by decide)⟩, fun z => absurd z (by decide)⟩⟩
theorem j1_split {α : Type} {K : α → Prop} {body : (α → Prop) → Prop} (E : α → Prop) (fin : ∀ s, E s → K s) (h : ∀ X : α → Prop, (∀ s, E s → X s) → body X) : kk_j1 K body := h K fin
theorem j2_split {α β : Type} {K : α → β → Prop} {body : (α → β → Prop) → Prop} (E : α → β → Prop) (fin : ∀ v s, E v s → K v s) (h : ∀ X : α → β → Prop, (∀ v s, E v s → X v s) → body X) : kk_j2 K body := h K fin
section
variable {n m : Nat} {a b : Nat → Nat} {σ : kk_St} {c : Nat → Int32} {O : Nat → Nat → Bool} {S : Nat → Bool} {pk : Nat → Int32}
theorem usd_cong {p p' : Nat → Int32} (h : ∀ l, l < m → p l = p' l) (x : Nat) (v : Int32) : usd m a b p x v = usd m a b p' x v := anyb_cong (fun l hl => by rw [h l hl])
theorem US_cong {p p' : Nat → Int32} (h : ∀ l, l < m → p l = p' l) (u : US m a b p σ) : US m a b p' σ := fun x hx => by
  rw [u x hx]
  exact mk_cong (fun q _ => usd_cong h x (nI q))
theorem PG_cong {p p' : Nat → Int32} (h : ∀ l, l < m → p l = p' l) (g : PG m a b O S p) : PG m a b O S p' := ⟨fun l hl => by rw [← h l hl]; exact g.1 l hl, fun i j hi hj hm e => by rw [← h i hi]; exact g.2 i j hi hj hm (by rw [h i hi, h j hj]; exact e)⟩
theorem GO_mono {p p' : Nat → Int32} {f : Nat → Nat} (h : ∀ l, l < m → p l ≠ -1 → p' l = p l) (g : GO m a b O S p' f) : GO m a b O S p f := ⟨g.1, fun l hl hne => by
  have e := h l hl hne
  have := g.2 l hl (by rw [e]; exact hne)
  rw [e] at this
  exact this⟩
theorem sm_fewestW (M : RM n m a b c σ) (W : Wf n m a b) (A : AL m O σ) (U : US m a b pk σ) (K : PKc m pk σ) (G : PG m a b O S pk) {Q : Int32 → Prop} (h : ∀ r, ((r = -1 ∧ ∀ l, l < m → S l = true → pk l ≠ -1) ∨ ∃ t, t < m ∧ S t = true ∧ pk t = -1 ∧ r = nI t) → Q r) : f_X11_fewestWays (mk S m) σ Q := sm_fewestWays M W A U K G (fun t h1 h2 h3 => h _ (Or.inr ⟨t, h1, h2, h3, rfl⟩)) (fun hx => h _ (Or.inl ⟨rfl, hx⟩))
/-- the endings of the search -/
def EndS (m : Nat) (a b : Nat → Nat) (O : Nat → Nat → Bool) (S : Nat → Bool) (pk : Nat → Int32) (σ : kk_St) (v : Int32) (s : kk_St) : Prop := frF [11, 12, 13, 14, 15] [23] σ s ∧ ((v = 1 ∧ ∃ g, GO m a b O S pk g) ∨ (v = 0 ∧ ¬ ∃ g, GO m a b O S pk g)) ∧ ∀ l, l < m → pk l ≠ -1 → s.1 11 l = pk l
theorem sm_canGoOn (M : RM n m a b c σ) (W : Wf n m a b) (A : AL m O σ) (al : alk m O σ) (K : PKc m pk σ) (hv : ∀ l, l < m → pk l = -1 ∨ (S l = true ∧ ∃ q, q < 9 ∧ pk l = nI q)) {Q : Int32 → kk_St → Prop} (h1 : (∃ f, GO m a b O S pk f) → ∀ τ, frF [11, 12, 13, 14, 15] [23] σ τ → PKc m pk τ → Q 1 τ) (h0 : (¬ ∃ f, GO m a b O S pk f) → ∀ τ, frF [11, 12, 13, 14, 15] [23] σ τ → PKc m pk τ → Q 0 τ) : f_X11_canGoOn (mk S m) σ Q := by
  have hm := W.2.2.1
  have hn := W.2.1
  have Mf : ∀ τ, frF [11, 12, 13, 14, 15] [23] σ τ → RM n m a b c τ := fun τ fr => RM_fr M fr (by simp) (by simp)
  have Af : ∀ τ, frF [11, 12, 13, 14, 15] [23] σ τ → AL m O τ := fun τ fr l hl => by rw [fr.1 10 (by simp) (by decide)]; exact A l hl
  have lf : ∀ τ, frF [11, 12, 13, 14, 15] [23] σ τ → alk m O τ := fun τ fr => by unfold alk; rw [fr.2.1 17 (by simp)]; exact al
  unfold f_X11_canGoOn
  refine lf_2_0 9 (by omega) (fun k τ => frF [11, 12, 13, 14, 15] [23] σ τ ∧ τ.1 11 = σ.1 11 ∧ ∀ p, p < k → τ.1 12 p = 0) (Nat.zero_le _) ⟨frF_rf, rfl, fun _ h => absurd h (Nat.not_lt_zero _)⟩ ?_ ?_
  · rintro rec k τ hk ⟨fr, e11, i1⟩ hrec
    refine br_f (nI_ge (a := k) (b := 9) hk (by omega)) ⟨vp_lt (by omega) (by omega), ?_⟩
    rintro _ rfl
    refine hrec _ ⟨frF_w fr (by simp) (by decide), by rw [wr_ne _ _ _ (by decide)]; exact e11, fun p hp => ?_⟩
    rw [nI_clamp (by omega), wr_at, upd_if]
    by_cases e : p = k
    · rw [if_pos e]
    · rw [if_neg e]; exact i1 p (by omega)
  rintro rec τ0 ⟨fr0, e110, i0⟩
  refine br_t (nI_le (a := 9) (b := 9) (Nat.le_refl _) (by omega)) ?_
  have nolt : ∀ l, (fun l => if l < 0 then pk l else -1) l = (-1 : Int32) := fun l => if_neg (Nat.not_lt_zero _)
  refine lf_3_1 m (by omega) (fun k x τ => frF [11, 12, 13, 14, 15] [23] σ τ ∧ τ.1 11 = σ.1 11 ∧ x = mk (fun l => S l && !decide (pk l = -1)) k ∧ PG m a b O S (fun l => if l < k then pk l else -1) ∧ US m a b (fun l => if l < k then pk l else -1) τ) (Nat.zero_le _) ⟨fr0, e110, rfl, ⟨fun l _ => Or.inl (nolt l), fun i _ _ _ _ _ => nolt i⟩, fun p hp => ?_⟩ ?_ ?_
  · rw [i0 p hp, ← mk_0 9]
    refine mk_cong (fun q hq => ?_)
    refine (anyb_no.mpr (fun l _ => ?_)).symm
    rw [nolt l, decide_eq_false (fun z => nI_ne_m1 (show q < 2 ^ 31 by omega) z.symm), Bool.and_false]
  · rintro rec7 k _ τ hk ⟨fr, e11, rfl, G, U⟩ hrec7
    have Mk := Mf τ fr
    rw [Mk.2.1]
    refine br_f (nI_ge hk (by omega)) ?_
    refine sp_hasM hk (by omega) ?_
    dsimp only [kk_j2]
    have pu := mk_push (fun l => S l && !decide (pk l = -1)) (n := k) (by omega)
    have keep : pk k = -1 → rec7 (mk (fun l => S l && !decide (pk l = -1)) k) (nI k + 1) τ := fun e => by
      have eq : (fun l => if l < k + 1 then pk l else -1) = (fun l => if l < k then pk l else (-1 : Int32)) := by
        funext l
        by_cases y : l < k
        · rw [if_pos (show l < k + 1 by omega), if_pos y]
        · rw [if_neg y]
          by_cases y2 : l = k
          · rw [y2, if_pos (by omega)]; exact e
          · rw [if_neg (by omega)]
      refine hrec7 _ _ ⟨fr, e11, ?_, ?_, ?_⟩
      · rw [decide_eq_true e, Bool.not_true, Bool.and_false] at pu
        exact pu
      · rw [eq]; exact G
      · rw [eq]; exact U
    cases z : S k with
    | false =>
      refine br_t rfl (keep ?_)
      rcases hv k hk with y | ⟨y, _⟩
      · exact y
      · rw [z] at y; cases y
    | true =>
      refine br_f (by decide) ⟨vp_lt (by omega) (by omega), ?_⟩
      rw [rd_nI (by omega), e11, K k hk]
      rcases hv k hk with y | ⟨_, q, hq, y⟩
      · exact br_f (by rw [y]; decide) (keep y)
      · rw [y]
        refine br_t (nI_le (a := 0) (b := q) (Nat.zero_le _) (by omega)) ?_
        refine sm_waysOf Mk W (Af τ fr) U hk ⟨vp_lt (by omega) (by omega), ?_⟩
        refine sp_hasM hq (by omega) ?_
        have kk : (fun l => if l < k then pk l else (-1 : Int32)) k = -1 := if_neg (Nat.lt_irrefl k)
        cases x : wy m a b O (fun l => if l < k then pk l else -1) k q with
        | true =>
          refine jn_t (by decide) ⟨vp_lt (by omega) (by omega), ?_⟩
          refine sm_picks Mk W U hk hq (fun τ' fr' u' => ?_)
          rintro _ rfl
          have eq : ∀ l, l < m → upd (fun l => if l < k then pk l else -1) k (nI q) l = (fun l => if l < k + 1 then pk l else (-1 : Int32)) l := fun l _ => by
            rw [upd_if]
            dsimp only
            by_cases y2 : l = k
            · rw [if_pos y2, if_pos (by omega), y2, y]
            · rw [if_neg y2]
              by_cases y3 : l < k
              · rw [if_pos y3, if_pos (by omega)]
              · rw [if_neg y3, if_neg (by omega)]
          refine hrec7 _ _ ⟨frF_tr fr (frF_mono fr' (by simp) (by simp)), by rw [fr'.1 11 (by simp) (by decide)]; exact e11, ?_, PG_cong eq (PG_add G hk z hq x), US_cong eq (US_add hk kk x hq u')⟩
          rw [z, y, decide_eq_false (nI_ne_m1 (show q < 2 ^ 31 by omega)), Bool.not_false, Bool.and_true, if_pos rfl] at pu
          exact pu
        | false =>
          refine jn_f rfl (h0 (fun ⟨f, hf⟩ => ?_) τ fr (fun l hl => by rw [e11]; exact K l hl))
          have g : GO m a b O S (fun l => if l < k then pk l else -1) f := ⟨hf.1, fun l hl hne => by
            dsimp only at hne ⊢
            by_cases y2 : l < k
            · rw [if_pos y2] at hne ⊢; exact hf.2 l hl hne
            · rw [if_neg y2] at hne; exact absurd rfl hne⟩
          obtain ⟨w1, w2⟩ := wy_of g hk z kk
          have e := (hf.2 k hk (by rw [y]; exact nI_ne_m1 (by omega))).2
          rw [y] at e
          have e := (nI_ne (by omega) (by omega)).mp e
          rw [← e, x] at w2
          cases w2
  rintro rec7 _ τ ⟨fr, e11, rfl, G, U⟩
  have Mk := Mf τ fr
  rw [Mk.2.1]
  refine br_t (nI_le (Nat.le_refl _) (by omega)) ?_
  have pm : ∀ l, l < m → (fun l => if l < m then pk l else (-1 : Int32)) l = pk l := fun l hl => if_pos hl
  have G := PG_cong pm G
  have U := US_cong pm U
  refine sm_laysParts Mk W (fun τ8 t8 fr8 ht8 e23 => ?_)
  have f8 : frF [11, 12, 13, 14, 15] [23] σ τ8 := frF_tr fr (frF_mono fr8 (by simp) (by simp))
  have M8 := Mf τ8 f8
  have A8 := Af τ8 f8
  have U8 : US m a b pk τ8 := fun p hp => by rw [fr8.1 12 (by simp) (by decide)]; exact U p hp
  have K8 : PKc m pk τ8 := fun l hl => by rw [fr8.1 11 (by simp) (by decide), e11]; exact K l hl
  refine sm_fewestW M8 W A8 U8 K8 G (fun r hr => ?_)
  refine go_split (I := fun t s => ∃ N, Inv m a b O S pk σ N 0 t s) ?_ ?_ ?_
  · rintro t s ⟨N, hI⟩
    refine j2_split (EndS m a b O S pk σ) ?_ ?_
    · rintro v s' ⟨f', hx, e'⟩
      refine lf_2_0 m (by omega) (fun k θ => frF [11, 12, 13, 14, 15] [23] σ θ ∧ (∀ l, l < k → θ.1 11 l = pk l) ∧ ∀ l, l < m → pk l ≠ -1 → θ.1 11 l = pk l) (Nat.zero_le _) ⟨f', fun _ h => absurd h (Nat.not_lt_zero _), e'⟩ ?_ ?_
      · rintro rec20 k θ hk ⟨fθ, j1, j2⟩ hrec20
        have Mθ := Mf θ fθ
        rw [Mθ.2.1]
        refine br_f (nI_ge hk (by omega)) ?_
        refine sp_hasM hk (by omega) ?_
        dsimp only [kk_j1]
        by_cases z : pk k = -1
        · rw [decide_eq_true z, Bool.not_true, Bool.and_false]
          refine jn_f rfl ⟨vp_lt (by omega) (by omega), ?_⟩
          rintro _ rfl
          refine hrec20 _ ⟨frF_w fθ (by simp) (by decide), fun l hl => ?_, fun l hl hne => ?_⟩
          · rw [nI_clamp (by omega), wr_at, upd_if]
            by_cases e : l = k
            · rw [if_pos e, e, z]
            · rw [if_neg e]; exact j1 l (by omega)
          · have ne : l ≠ k := fun y => hne (by rw [y]; exact z)
            rw [nI_clamp (by omega), wr_at, upd_ne _ _ ne]; exact j2 l hl hne
        · have sk : S k = true := by
            rcases hv k hk with y | ⟨y, _⟩
            · exact absurd y z
            · exact y
          rw [sk, decide_eq_false z]
          refine jn_t (by decide) (hrec20 _ ⟨fθ, fun l hl => ?_, j2⟩)
          by_cases e : l = k
          · rw [e]; exact j2 k hk z
          · exact j1 l (by omega)
      · rintro rec20 θ ⟨fθ, j1, j2⟩
        have Mθ := Mf θ fθ
        rw [Mθ.2.1]
        refine br_t (nI_le (Nat.le_refl _) (by omega)) ?_
        rcases hx with ⟨rfl, hx⟩ | ⟨rfl, hx⟩
        · exact ⟨Or.inr rfl, h1 hx θ fθ j1⟩
        · exact ⟨Or.inl rfl, h0 hx θ fθ j1⟩
    · intro X hX
      refine lpG3 (Inv m a b O S pk σ) ?_ hI
      rintro rec30 N v f τ ⟨fτ, ⟨t9, ht9, e9⟩, hI⟩ hrec30
      rcases hI with ⟨rfl, hx, e⟩ | ⟨rfl, rfl, hx, e⟩ | ⟨rfl, d, Pp, T, R, rfl, hst, hcur, rfl⟩
      · exact jn_t (by decide) (hX _ _ ⟨fτ, Or.inl ⟨rfl, hx⟩, e⟩)
      · exact jn_f rfl (br_t (by decide) (hX _ _ ⟨fτ, Or.inr ⟨rfl, hx⟩, e⟩))
      have hd := Stk_d hst
      obtain ⟨d1, d2, d3, d4, d5, d6, d7, d8⟩ := hst.2.2.1 d (Nat.le_refl _)
      refine jn_f rfl (br_f (nI_nlt (a := d) (b := 0) (Nat.zero_le _) (by omega)) ⟨vp_lt (by omega) (by omega), ?_⟩)
      rw [rd_nI (q := 13) (show d < 2 ^ 31 by omega), d7]
      refine ⟨vp_lt (by omega) (by omega), ?_⟩
      refine j1_split (fun s => frF [11, 12, 13, 14, 15] [23] σ s ∧ s.1 0 23 = nI t9 ∧ s.1 13 = τ.1 13 ∧ s.1 14 = τ.1 14 ∧ (∀ l, l < m → l ≠ T d → s.1 11 l = Pp d l) ∧ US m a b (Pp d) s) ?_ ?_
      · rintro s ⟨fs, es, s13, s14, s11, sU⟩
        refine ⟨vp_lt (by omega) (by omega), ?_⟩
        rintro _ rfl
        have cT : Int32.toNatClampNeg (nI (T d)) = T d := nI_clamp (by omega)
        rw [cT]
        have f33 : frF [11, 12, 13, 14, 15] [23] σ (kk_wr s 11 (T d) (-1)) := frF_w fs (by simp) (by decide)
        have K33 : PKc m (Pp d) (kk_wr s 11 (T d) (-1)) := fun l hl => by
          rw [wr_at, upd_if]
          by_cases e : l = T d
          · rw [if_pos e, e, d3]
          · rw [if_neg e]; exact s11 l hl e
        have U33 : US m a b (Pp d) (kk_wr s 11 (T d) (-1)) := fun p hp => by rw [wr_ne _ _ _ (by decide)]; exact sU p hp
        have e33 : (kk_wr s 11 (T d) (-1)).1 0 23 = nI t9 := by rw [wr_ne _ _ _ (by decide)]; exact es
        have w13 : (kk_wr s 11 (T d) (-1)).1 13 = τ.1 13 := by rw [wr_ne _ _ _ (by decide)]; exact s13
        have w14 : (kk_wr s 11 (T d) (-1)).1 14 = τ.1 14 := by rw [wr_ne _ _ _ (by decide)]; exact s14
        generalize kk_wr s 11 (T d) (-1) = s33 at f33 K33 U33 e33 w13 w14 ⊢
        refine ⟨vp_lt (by omega) (by omega), ?_⟩
        rw [rd_nI (q := 14) (show d < 2 ^ 31 by omega), w14, d8]
        constructor
        · intro ne
          obtain ⟨q, hq, q1, q0⟩ : ∃ q, q < 9 ∧ R d q = true ∧ ∀ j, j < q → R d j = false := by
            rcases fst_ex (R d) 9 with ⟨q, x1, x2, x3⟩ | x
            · exact ⟨q, x1, x2, x3⟩
            · exact absurd ((mk_eq0 (by omega)).mpr x) ne
          have wq := d6 q hq q1
          refine ⟨vp_lt (by omega) (by omega), ?_⟩
          refine sp_lowestOfM (by omega) hq q1 q0 ⟨vp_lt (by omega) (by omega), ?_⟩
          rintro _ rfl
          refine ⟨vp_lt (by omega) (by omega), vp_lt (by omega) (by omega), vp_lt (by omega) (by omega), ?_⟩
          rintro _ rfl
          have cd : Int32.toNatClampNeg (nI d) = d := nI_clamp (by omega)
          rw [cd]
          have r14 : kk_rd (kk_wr s33 11 (T d) (nI q)) 14 (nI d) = mk (R d) 9 := by
            rw [rd_nI (by omega), wr_ne _ _ _ (by decide), w14, d8]
          rw [r14, (mk_low (R d)).2]
          have f36 : frF [11, 12, 13, 14, 15] [23] σ (kk_wr (kk_wr s33 11 (T d) (nI q)) 14 d (mk (fun x => R d x && anyb (R d) x) 9)) := frF_w (frF_w f33 (by simp) (by decide)) (by simp) (by decide)
          have K36 : PKc m (upd (Pp d) (T d) (nI q)) (kk_wr (kk_wr s33 11 (T d) (nI q)) 14 d (mk (fun x => R d x && anyb (R d) x) 9)) := fun l hl => by
            rw [wr_ne _ _ _ (by decide), wr_at, upd_if, upd_if]
            by_cases e : l = T d
            · rw [if_pos e, if_pos e]
            · rw [if_neg e, if_neg e]; exact K33 l hl
          have U36 : US m a b (Pp d) (kk_wr (kk_wr s33 11 (T d) (nI q)) 14 d (mk (fun x => R d x && anyb (R d) x) 9)) := fun p hp => by rw [wr_ne _ _ _ (by decide), wr_ne _ _ _ (by decide)]; exact U33 p hp
          have x23 : (kk_wr (kk_wr s33 11 (T d) (nI q)) 14 d (mk (fun x => R d x && anyb (R d) x) 9)).1 0 23 = nI t9 := by rw [wr_ne _ _ _ (by decide), wr_ne _ _ _ (by decide)]; exact e33
          have x13 : (kk_wr (kk_wr s33 11 (T d) (nI q)) 14 d (mk (fun x => R d x && anyb (R d) x) 9)).1 13 = τ.1 13 := by rw [wr_ne _ _ _ (by decide), wr_ne _ _ _ (by decide)]; exact w13
          have x14 : (kk_wr (kk_wr s33 11 (T d) (nI q)) 14 d (mk (fun x => R d x && anyb (R d) x) 9)).1 14 = upd (τ.1 14) d (mk (fun x => R d x && anyb (R d) x) 9) := by rw [wr_at, wr_ne _ _ _ (by decide), w14]
          generalize kk_wr (kk_wr s33 11 (T d) (nI q)) 14 d (mk (fun x => R d x && anyb (R d) x) 9) = s36 at f36 K36 U36 x23 x13 x14 ⊢
          refine ⟨vp_lt (by omega) (by omega), ?_⟩
          rw [rd_nI (q := 11) (show T d < 2 ^ 31 by omega), K36 (T d) d1, upd_at]
          refine sm_picks (Mf s36 f36) W U36 d1 hq (fun s37 g37 u37 => ?_)
          have f37 : frF [11, 12, 13, 14, 15] [23] σ s37 := frF_tr f36 (frF_mono g37 (by simp) (by simp))
          have U37 : US m a b (upd (Pp d) (T d) (nI q)) s37 := US_add d1 d3 wq hq u37
          have K37 : PKc m (upd (Pp d) (T d) (nI q)) s37 := fun l hl => by rw [g37.1 11 (by simp) (by decide)]; exact K36 l hl
          have y23 : s37.1 0 23 = nI t9 := by rw [g37.2.1 23 (by simp)]; exact x23
          have y13 : s37.1 13 = τ.1 13 := by rw [g37.1 13 (by simp) (by decide)]; exact x13
          have y14 : s37.1 14 = upd (τ.1 14) d (mk (fun x => R d x && anyb (R d) x) 9) := by rw [g37.1 14 (by simp) (by decide)]; exact x14
          have G37 := PG_add d4 d1 d2 hq wq
          have again : (¬ ∃ f, GO m a b O S (upd (Pp d) (T d) (nI q)) f) → rec30 (nI d) 0 s37 := fun no => by
            refine hrec30 (msr (Rno R d) d) _ _ _ ?_ ⟨f37, ⟨t9, ht9, y23⟩, Or.inr (Or.inr ⟨rfl, d, Pp, T, Rno R d, rfl, try_st hst hq q1 q0 y13 y14 no, Or.inr ⟨q, hq, wq, K37, U37⟩, rfl⟩)⟩
            have := msr_no hq q1 q0
            have : 0 < 11 ^ (20 - d) := Nat.pow_pos (by omega)
            omega
          refine sm_fewestW (Mf s37 f37) W (Af s37 f37) U37 K37 G37 (fun r hr => ?_)
          dsimp only [kk_j1]
          rcases hr with ⟨rfl, hx⟩ | ⟨t, ht, hs, hp, rfl⟩
          · refine jn_f rfl (jn_t (by decide) (hrec30 0 _ _ _ ?_ ⟨f37, ⟨t9, ht9, y23⟩, Or.inl ⟨rfl, ?_, fun l hl hne => ?_⟩⟩))
            · unfold msr; omega
            · obtain ⟨g, hg⟩ := GO_full G37 hx
              refine ⟨g, GO_mono (fun l hl hne => ?_) hg⟩
              have ne : l ≠ T d := fun z => by
                have := d5 l hl hne
                rw [z, d3] at this
                rw [z] at hne
                exact hne this.symm
              rw [upd_ne _ _ ne]; exact d5 l hl hne
            · have ne : l ≠ T d := fun z => by
                have := d5 l hl hne
                rw [z, d3] at this
                rw [z] at hne
                exact hne this.symm
              rw [K37 l hl, upd_ne _ _ ne]; exact d5 l hl hne
          · refine jn_t (nI_ne_m1 (by omega)) (jn_f rfl ?_)
            refine sm_waysOf (Mf s37 f37) W (Af s37 f37) U37 ht ?_
            constructor
            · intro z
              have z := (mk_eq0 (by omega)).mp z
              refine again (fun ⟨f, hf⟩ => ?_)
              obtain ⟨w1, w2⟩ := wy_of hf ht hs hp
              rw [z _ w1] at w2
              cases w2
            · intro _
              refine sm_canBeEnough (Mf s37 f37) W (Af s37 f37) U37 K37 G37 ht9 y23 (jn_t (by decide) ?_) (fun no => jn_f rfl (again no))
              have up := unp_pos (m := m) ht hs hp
              have ul := unp_upd d1 d2 d3 hq
              have u20 := hst.2.2.2.2
              have d19 : d + 1 ≤ 19 := by omega
              rw [nI_1]
              refine ⟨vp_lt (by omega) (by omega), ?_⟩
              rintro _ rfl
              have c1 : Int32.toNatClampNeg (nI (d + 1)) = d + 1 := nI_clamp (by omega)
              rw [c1]
              have f43 : frF [11, 12, 13, 14, 15] [23] σ (kk_wr s37 13 (d + 1) (nI t)) := frF_w f37 (by simp) (by decide)
              refine sm_triesOf (Mf _ f43) W (Af _ f43) (fun p hp' => by rw [wr_ne _ _ _ (by decide)]; exact U37 p hp') G37 (lf _ f43) ht hs hp (fun R' hR' hG' => ⟨vp_lt (by omega) (by omega), ?_⟩)
              rintro _ rfl
              refine hrec30 _ _ _ _ (push_ms (R' := R') d19 hq q1 q0) ⟨frF_w f43 (by simp) (by decide), ⟨t9, ht9, by rw [wr_ne _ _ _ (by decide), wr_ne _ _ _ (by decide)]; exact y23⟩, Or.inr (Or.inr ⟨rfl, d + 1, _, _, _, rfl, push_st hst hq q1 q0 ht hs hp hR' hG' ?_ ?_, ?_, rfl⟩)⟩
              · rw [wr_ne _ _ _ (by decide), wr_at, y13]
              · rw [wr_at, wr_ne _ _ _ (by decide), y14]
              · rw [x1_at, x1_at]
                exact Or.inl ⟨fun l hl => by rw [wr_ne _ _ _ (by decide), wr_ne _ _ _ (by decide)]; exact K37 l hl, fun p hp' => by rw [wr_ne _ _ _ (by decide), wr_ne _ _ _ (by decide)]; exact U37 p hp'⟩
        · intro em
          have em := (mk_eq0 (by omega)).mp em
          obtain ⟨s1, s2, s3, s4, s5⟩ := hst
          have none : ∀ f, GO m a b O S (Pp d) f → R d (f (T d)) = true → False := fun f hf hr => by
            rw [em _ (wy_of hf d1 d2 d3).1] at hr
            cases hr
          by_cases z : d = 0
          · subst z
            refine hrec30 0 _ _ _ (by unfold msr; omega) ⟨f33, ⟨t9, ht9, e33⟩, Or.inr (Or.inl ⟨rfl, by decide, fun hx => ?_, fun l hl hne => by rw [K33 l hl]; exact d5 l hl hne⟩)⟩
            obtain ⟨i, f, i1, i2, i3⟩ := s4 hx
            obtain rfl : i = 0 := by omega
            exact none f i2 i3
          · obtain ⟨d', rfl⟩ : ∃ d', d = d' + 1 := ⟨d - 1, by omega⟩
            have ed : nI (d' + 1) + (-1 : Int32) = nI d' := by
              rw [← nI_1, Int32.add_assoc]
              exact Int32.add_zero _
            rw [ed]
            obtain ⟨q, hq, wq, eP⟩ := s2 d' (by omega)
            refine hrec30 (msr R d') _ _ _ ?_ ⟨f33, ⟨t9, ht9, e33⟩, Or.inr (Or.inr ⟨rfl, d', Pp, T, R, rfl, ⟨s1, fun i hi => s2 i (by omega), fun i hi => ?_, fun hx => ?_, ?_⟩, Or.inr ⟨q, hq, wq, ?_, ?_⟩, rfl⟩)⟩
            · unfold msr
              show _ < sumN _ (d' + 1) + _ + (d' + 1 + 1)
              omega
            · rw [w13, w14]; exact s3 i (by omega)
            · obtain ⟨i, f, i1, i2, i3⟩ := s4 hx
              refine ⟨i, f, ?_, i2, i3⟩
              rcases Nat.lt_or_ge d' i with y | y
              · obtain rfl : i = d' + 1 := by omega
                exact (none f i2 i3).elim
              · exact y
            · obtain ⟨e1, e2, e3, _⟩ := s3 d' (by omega)
              have : unp m S (Pp (d' + 1)) + 1 = unp m S (Pp d') := by
                rw [eP]
                unfold unp
                have := fb_ct_upd (fun l => S l && decide (Pp d' l = -1)) false (n := m) e1
                rw [e2, decide_eq_true e3] at this
                have eq : fb_ct (fun k => if k = T d' then false else (S k && decide (Pp d' k = -1))) m = fb_ct (fun l => S l && decide (upd (Pp d') (T d') (nI q) l = -1)) m := fb_ct_cong (fun l _ => by
                  rw [upd_if]
                  by_cases y : l = T d'
                  · rw [if_pos y, if_pos y, decide_eq_false (nI_ne_m1 (show q < 2 ^ 31 by omega)), Bool.and_false]
                  · rw [if_neg y, if_neg y])
                rw [eq] at this
                simpa using this
              omega
            · rw [← eP]; exact K33
            · rw [← eP]; exact U33
      · intro X' hX'
        rcases hcur with ⟨k1, k2⟩ | ⟨q, hq, wq, k1, k2⟩
        · rw [rd_nI (q := 11) (show T d < 2 ^ 31 by omega), k1 (T d) d1, d3]
          exact br_t (by decide) (hX' τ ⟨fτ, e9, rfl, rfl, fun l hl _ => k1 l hl, k2⟩)
        · rw [rd_nI (q := 11) (show T d < 2 ^ 31 by omega), k1 (T d) d1, upd_at]
          refine br_f (nI_nlt (a := q) (b := 0) (Nat.zero_le _) (by omega)) ⟨vp_lt (by omega) (by omega), ?_⟩
          refine sm_picks (Mf τ fτ) W k2 d1 hq (fun s gs us => ?_)
          refine hX' s ⟨frF_tr fτ (frF_mono gs (by simp) (by simp)), by rw [gs.2.1 23 (by simp)]; exact e9, gs.1 13 (by simp) (by decide), gs.1 14 (by simp) (by decide), fun l hl ne => ?_, US_cong (fun l hl => ?_) (US_del (PG_add d4 d1 d2 hq wq) d1 (upd_at _ _ _) hq us)⟩
          · rw [gs.1 11 (by simp) (by decide), k1 l hl, upd_ne _ _ ne]
          · rw [upd_if, upd_if]
            by_cases e : l = T d
            · rw [if_pos e, e, d3]
            · rw [if_neg e, if_neg e]
  · rintro rfl
    rcases hr with ⟨_, hx⟩ | ⟨t, ht, _, _, e⟩
    · exact ⟨0, f8, ⟨t8, ht8, e23⟩, Or.inl ⟨rfl, GO_full G hx, fun l hl _ => K8 l hl⟩⟩
    · exact absurd e.symm (nI_ne_m1 (by omega))
  · intro hne X hX
    rcases hr with ⟨e, _⟩ | ⟨t, ht, hs, hp, rfl⟩
    · exact absurd e hne
    · refine sm_canBeEnough M8 W A8 U8 K8 G ht8 e23 (jn_t (by decide) (jn_f rfl ⟨vp_lt (k := 0) (by omega) (by omega), ?_⟩)) (fun no => jn_f rfl (h0 no τ8 f8 K8))
      rintro _ rfl
      have c0 : Int32.toNatClampNeg (0 : Int32) = 0 := by decide
      rw [c0]
      have f55 : frF [11, 12, 13, 14, 15] [23] σ (kk_wr τ8 13 0 (nI t)) := frF_w f8 (by simp) (by decide)
      refine sm_triesOf (Mf _ f55) W (Af _ f55) (fun p hp' => by rw [wr_ne _ _ _ (by decide)]; exact U8 p hp') G (lf _ f55) ht hs hp (fun R hR hG => ⟨vp_lt (k := 0) (by omega) (by omega), ?_⟩)
      rintro _ rfl
      refine hX _ ⟨_, frF_w f55 (by simp) (by decide), ⟨t8, ht8, by rw [wr_ne _ _ _ (by decide), wr_ne _ _ _ (by decide)]; exact e23⟩, Or.inr (Or.inr ⟨rfl, 0, fun _ => pk, fun _ => t, fun _ => R, rfl, ⟨rfl, fun i hi => absurd hi (Nat.not_lt_zero _), fun i hi => ?_, fun hx => ?_, ?_⟩, Or.inl ⟨fun l hl => ?_, fun p hp' => ?_⟩, rfl⟩)⟩
      · obtain rfl : i = 0 := by omega
        refine ⟨ht, hs, hp, G, fun _ _ _ => rfl, hR, ?_, ?_⟩
        · rw [wr_ne _ _ _ (by decide), wr_at, upd_at]
        · rw [wr_at, upd_at]
      · obtain ⟨f, g1, g2⟩ := hG hx
        exact ⟨0, f, Nat.le_refl _, g1, g2⟩
      · have := fb_ct_le (fun l => S l && decide (pk l = -1)) m
        show 0 + fb_ct (fun l => S l && decide (pk l = -1)) m ≤ 20
        omega
      · rw [wr_ne _ _ _ (by decide), wr_ne _ _ _ (by decide)]; exact K8 l hl
      · rw [wr_ne _ _ _ (by decide), wr_ne _ _ _ (by decide)]; exact U8 p hp'
end
