/-! kinds and turns: the second side spreads -/
def KDc (T : Nat) (kd : Nat → Nat) (σ : kk_St) : Prop := ∀ d, d < T → σ.1 19 d = nI (kd d)
def QUc (last : Nat) (q : Nat → Nat) (σ : kk_St) : Prop := ∀ i, i < last → σ.1 20 i = nI (q i)
section
variable {n m : Nat} {a b : Nat → Nat} {c : Nat → Int32} {σ : kk_St}
/-- a code come of another by the chain of a post -/
theorem tsp_post {k d o w p : Nat} (hk : 1 ≤ k) (ow : o < w) (wk : w < k) {C : Nat → Bool} (hC : ∀ l, l < m → C l = rch m a b (pol (dgt k d) o w) (fun j => inc a b j p) l) {l : Nat} (hl : l < m) (hp : pol (dgt k d) o w l = true) (hi : inc a b l p = true) : (∀ j, j < m → fl (dgt k d) C o w j = fl (dgt k d) (cmpn m a b (dgt k d) o w l) o w j) := by
  intro j hj
  have := rch_post (m := m) (a := a) (b := b) hl hp hi j hj
  unfold fl
  rw [hC j hj, ← this]
  rfl
theorem fl_below {k d o w : Nat} (hk : 1 ≤ k) (ow : o < w) (wk : w < k) {C : Nat → Bool} (l : Nat) : fl (dgt k d) C o w l < k := by
  have := dgt_lt (B := k) (c := d) (l := l) (by omega)
  unfold fl
  split
  · split <;> omega
  · exact this
theorem sm_spreads (M : RM n m a b c σ) (W : Wf n m a b) (hm : m ≤ 6) {k T c0 : Nat} (hk : 1 ≤ k) (hk4 : k ≤ 4) (hT : T = k ^ m) (hc : c0 < T) {kd0 : Nat → Nat} {Old : Nat → Bool} (K0 : KDc T kd0 σ) (hn : kd0 c0 = 0) (ho : ∀ d, d < T → (kd0 d ≠ 0 ↔ Old d = true)) (hb : ∀ d, d < T → kd0 d ≤ 5000) {Q : kk_St → Prop} (h : ∀ τ q last kd, frF [18, 19, 20] [9] σ τ → KDc T kd τ → BF m a b k T c0 Old last last q kd → (∀ d, d < T → Old d = true → kd d = kd0 d) → Q τ) : f_X11_spreads (nI c0) (nI k) 1 σ Q := by
  have hn9 := W.2.1
  have T4 : T ≤ 4096 := by rw [hT]; exact kp_le hm hk4
  unfold f_X11_spreads
  refine ⟨vp_lt (k := 0) (by omega) (by omega), ?_⟩
  rintro _ rfl
  refine ⟨vp_lt (by omega) (by omega), ?_⟩
  rintro _ rfl
  have z0 : Int32.toNatClampNeg (0 : Int32) = 0 := by decide
  rw [z0, nI_clamp (by omega)]
  have f0 : frF [18, 19, 20] [9] σ (kk_wr (kk_wr σ 20 0 (nI c0)) 19 c0 1) := frF_w (frF_w frF_rf (by simp) (by decide)) (by simp) (by decide)
  have K1 : KDc T (ext1 kd0 c0 1) (kk_wr (kk_wr σ 20 0 (nI c0)) 19 c0 1) := fun d hd => by
    rw [wr_at, upd_if]
    by_cases e : d = c0
    · rw [if_pos e, e, x1_at]; rfl
    · rw [if_neg e, x1_ne _ _ e, wr_ne _ _ _ (by decide)]; exact K0 d hd
  have Q1 : QUc 1 (fun _ => c0) (kk_wr (kk_wr σ 20 0 (nI c0)) 19 c0 1) := fun i hi => by
    obtain rfl : i = 0 := by omega
    rw [wr_ne _ _ _ (by decide), wr_at, upd_at]
  have B1 : BF m a b k T c0 Old 0 1 (fun _ => c0) (ext1 kd0 c0 1) := BF_start hc hn ho
  have O1 : ∀ d, d < T → Old d = true → ext1 kd0 c0 1 d = kd0 d := fun d hd hod => x1_ne _ _ (fun z => by
    have := (ho d hd).mpr hod
    rw [z, hn] at this
    exact this rfl)
  generalize kk_wr (kk_wr σ 20 0 (nI c0)) 19 c0 1 = τ0 at f0 K1 Q1 ⊢
  have kb : ∀ (first last : Nat) (q kd : Nat → Nat), BF m a b k T c0 Old first last q kd → (∀ d, d < T → Old d = true → kd d = kd0 d) → ∀ d, d < T → kd d ≤ 5000 := fun first last q kd B O d hd => by
    by_cases z : kd d = 0
    · omega
    · rcases BF_mark B d hd z with y | ⟨_, y, _⟩
      · rw [O d hd y]; exact hb d hd
      · omega
  refine kk_lpI3 (fun v u τ => ∃ (last first : Nat) (q kd : Nat → Nat), v = nI last ∧ u = nI first ∧ first ≤ last ∧ frF [18, 19, 20] [9] σ τ ∧ KDc T kd τ ∧ QUc last q τ ∧ BF m a b k T c0 Old first last q kd ∧ ∀ d, d < T → Old d = true → kd d = kd0 d) (fun _ u _ => T - u.toNatClampNeg) ?_ ⟨1, 0, fun _ => c0, _, rfl, rfl, by omega, f0, K1, Q1, B1, O1⟩
  rintro rec6 _ _ τ ⟨last, first, q, kd, rfl, rfl, fl', f1, K2, Q2, B2, O2⟩ hrec6
  have rm := BF_room B2
  by_cases fin : last ≤ first
  · obtain rfl : first = last := by omega
    exact br_t (nI_le (Nat.le_refl _) (by omega)) (h τ q first kd f1 K2 B2 O2)
  have ff : first < last := by omega
  refine br_f (nI_ge ff (by omega)) ?_
  rw [z_mul]
  have kk16 : k * k ≤ 16 := Nat.mul_le_mul hk4 hk4
  have knz : ¬ nI k = 0 := fun z => by have := (nI_ne (j := 0) (by omega) (by omega)).mp z; omega
  obtain ⟨cf, hcf⟩ : ∃ cf, cf = q first := ⟨_, rfl⟩
  obtain ⟨vf, hvf⟩ : ∃ vf, vf = kd cf := ⟨_, rfl⟩
  refine lf_3_1 (k * k) (by omega) (fun pr v ρ => ∃ (last' : Nat) (q' kd' : Nat → Nat), v = nI last' ∧ last ≤ last' ∧ q' first = cf ∧ kd' cf = vf ∧ frF [18, 19, 20] [9] σ ρ ∧ KDc T kd' ρ ∧ QUc last' q' ρ ∧ BF m a b k T c0 Old first last' q' kd' ∧ (∀ d, d < T → Old d = true → kd' d = kd0 d) ∧ ∀ pr' l, pr' < pr → pr' / k < pr' % k → l < m → pol (dgt k cf) (pr' / k) (pr' % k) l = true → kd' (en k (fl (dgt k cf) (cmpn m a b (dgt k cf) (pr' / k) (pr' % k) l) (pr' / k) (pr' % k)) m) ≠ 0 ∧ (Old (en k (fl (dgt k cf) (cmpn m a b (dgt k cf) (pr' / k) (pr' % k) l) (pr' / k) (pr' % k)) m) = true ∨ kd' (en k (fl (dgt k cf) (cmpn m a b (dgt k cf) (pr' / k) (pr' % k) l) (pr' / k) (pr' % k)) m) ≤ vf + 1)) (Nat.zero_le _) ⟨last, q, kd, rfl, Nat.le_refl _, hcf.symm, hvf.symm, f1, K2, Q2, B2, O2, fun _ _ h => absurd h (Nat.not_lt_zero _)⟩ ?_ ?_
  · rintro rec10 pr _ ρ hpr ⟨last1, q1, kd1, rfl, ll1, c1, v1, f2, K3, Q3, B3, O3, done⟩ hrec10
    refine br_f (nI_ge hpr (by omega)) ⟨knz, knz, ?_⟩
    dsimp only [kk_j2]
    rw [pk_rem (show pr < 2 ^ 31 by omega) (by omega) (by omega), pk_div (show pr < 2 ^ 31 by omega) (by omega) (by omega)]
    have wk : pr % k < k := Nat.mod_lt _ (by omega)
    have ok : pr / k < k := Nat.div_lt_of_lt_mul hpr
    obtain ⟨o, ho'⟩ : ∃ o, o = pr / k := ⟨_, rfl⟩
    obtain ⟨w, hw'⟩ : ∃ w, w = pr % k := ⟨_, rfl⟩
    rw [← ho', ← hw']
    rw [← ho'] at ok
    rw [← hw'] at wk
    have good : ∀ (kd2 : Nat → Nat), (∀ e, kd1 e ≠ 0 → kd2 e = kd1 e) → ∀ pr' l, pr' < pr → pr' / k < pr' % k → l < m → pol (dgt k cf) (pr' / k) (pr' % k) l = true → kd2 (en k (fl (dgt k cf) (cmpn m a b (dgt k cf) (pr' / k) (pr' % k) l) (pr' / k) (pr' % k)) m) ≠ 0 ∧ (Old (en k (fl (dgt k cf) (cmpn m a b (dgt k cf) (pr' / k) (pr' % k) l) (pr' / k) (pr' % k)) m) = true ∨ kd2 (en k (fl (dgt k cf) (cmpn m a b (dgt k cf) (pr' / k) (pr' % k) l) (pr' / k) (pr' % k)) m) ≤ vf + 1) := fun kd2 hx pr' l h1 h2 h3 h4 => by
      obtain ⟨g1, g2⟩ := done pr' l h1 h2 h3 h4
      rw [hx _ g1]; exact ⟨g1, g2⟩
    refine lf_3_1 n (by omega) (fun p v θ => ∃ (last' : Nat) (q' kd' : Nat → Nat), v = nI last' ∧ last ≤ last' ∧ q' first = cf ∧ kd' cf = vf ∧ frF [18, 19, 20] [9] σ θ ∧ KDc T kd' θ ∧ QUc last' q' θ ∧ BF m a b k T c0 Old first last' q' kd' ∧ (∀ d, d < T → Old d = true → kd' d = kd0 d) ∧ (∀ e, kd1 e ≠ 0 → kd' e = kd1 e) ∧ ∀ l, o < w → l < m → (∃ p', p' < p ∧ inc a b l p' = true) → pol (dgt k cf) o w l = true → kd' (en k (fl (dgt k cf) (cmpn m a b (dgt k cf) o w l) o w) m) ≠ 0 ∧ (Old (en k (fl (dgt k cf) (cmpn m a b (dgt k cf) o w l) o w) m) = true ∨ kd' (en k (fl (dgt k cf) (cmpn m a b (dgt k cf) o w l) o w) m) ≤ vf + 1)) (Nat.zero_le _) ⟨last1, q1, kd1, rfl, ll1, c1, v1, f2, K3, Q3, B3, O3, fun _ _ => rfl, fun l _ _ ⟨p', h, _⟩ => absurd h (Nat.not_lt_zero _)⟩ ?_ ?_
    · rintro rec17 p _ θ hp ⟨last2, q2, kd2, rfl, ll2, c2, v2, f3, K4, Q4, B4, O4, ex, dn⟩ hrec17
      have Mθ := RM_fr M f3 (by simp) (by simp)
      rw [Mθ.1]
      refine br_f (nI_ge hp (by omega)) ?_
      rcases Nat.lt_or_ge o w with ow | ow
      · refine br_f (nI_ge ow (by omega)) ?_
        have rm2 := BF_room B4
        have lf2 : first < last2 := by omega
        have cfT : cf < T := by rw [← c2]; exact (B4.1.2.2 first lf2).1
        refine ⟨vp_lt (by omega) (by omega), ?_⟩
        rw [rd_nI (by omega), Q4 first lf2, c2]
        refine sm_laysTrial Mθ W hk hk4 (by omega) (fun θ1 g1 t1 => ?_)
        have M1 := RM_fr Mθ g1 (by simp) (by simp)
        refine sm_chainIn M1 W (by decide) t1 (by omega) (fun θ2 g2 _ => ?_)
        have cg : ∀ l, l < m → rch m a b (fun j => decide (nI (dgt k cf j) = nI o) || decide (nI (dgt k cf j) = nI w)) (fun j => inc a b j p) l = rch m a b (pol (dgt k cf) o w) (fun j => inc a b j p) l := rch_cong (fun j _ => by
          have dj := dgt_lt (B := k) (c := cf) (l := j) (by omega)
          unfold pol
          congr 1
          · by_cases y : dgt k cf j = o
            · rw [decide_eq_true y, y, decide_eq_true rfl]
            · rw [decide_eq_false y, decide_eq_false (fun z => y ((nI_ne (by omega) (by omega)).mp z))]
          · by_cases y : dgt k cf j = w
            · rw [decide_eq_true y, y, decide_eq_true rfl]
            · rw [decide_eq_false y, decide_eq_false (fun z => y ((nI_ne (by omega) (by omega)).mp z))]) (fun _ _ _ => rfl)
        generalize hCh : rch m a b (fun j => decide (nI (dgt k cf j) = nI o) || decide (nI (dgt k cf j) = nI w)) (fun j => inc a b j p) = Ch at cg ⊢
        have t2 : ∀ l, l < m → θ2.1 18 l = nI (dgt k cf l) := fun l hl => by rw [g2.1 18 (by simp) (by decide)]; exact t1 l hl
        have pl : ∀ l, l < m → Ch l = true → dgt k cf l = o ∨ dgt k cf l = w := fun l hl hx => by
          rw [cg l hl] at hx
          exact pol_iff.mp (rch_pool hx)
        refine sm_flips (by omega) (by omega) (by omega) t2 (fun l hl hx => by rcases pl l hl hx with y | y <;> rw [y] <;> simp) (fun θ3 t3 _ g3 => ?_)
        have fx : frF [18, 19, 20] [9] σ θ3 := frF_tr (frF_tr (frF_tr f3 (frF_mono g1 (by simp) (by simp))) (frF_mono g2 (by simp) (by simp))) (frF_L (frL_mono g3 (by simp)) (by simp))
        have M3 := RM_fr M fx (by simp) (by simp)
        have x3 : ∀ l, l < m → θ3.1 18 l = nI (fl (dgt k cf) Ch o w l) := fun l hl => by
          rw [t3 l hl]
          have dj := dgt_lt (B := k) (c := cf) (l := l) (by omega)
          unfold flp fl
          cases y : Ch l with
          | false => rfl
          | true =>
            rw [if_pos rfl, if_pos rfl]
            by_cases u : dgt k cf l = o
            · rw [if_pos u]
              exact if_pos (congrArg nI u)
            · rw [if_neg u]
              exact if_neg (fun z => u ((nI_ne (by omega) (by omega)).mp z))
        have e19 : θ3.1 19 = θ.1 19 := by rw [g3.1 19 (by simp), g2.1 19 (by simp) (by decide), g1.1 19 (by simp) (by decide)]
        have e20 : θ3.1 20 = θ.1 20 := by rw [g3.1 20 (by simp), g2.1 20 (by simp) (by decide), g1.1 20 (by simp) (by decide)]
        refine sm_codeOf M3 W x3 ?_
        have be : ∀ l, l < m → fl (dgt k cf) Ch o w l < k := fun l _ => fl_below hk ow wk l
        have eT := en_lt be
        rw [← hT] at eT
        have de := en_dgt (by omega) be
        generalize hne : en k (fl (dgt k cf) Ch o w) m = e at eT de ⊢
        refine ⟨vp_lt (by omega) (by omega), ?_⟩
        rw [rd_nI (by omega), e19, K4 e eT]
        have K5 : KDc T kd2 θ3 := fun d hd => by rw [e19]; exact K4 d hd
        have Q5 : QUc last2 q2 θ3 := fun i hi => by rw [e20]; exact Q4 i hi
        have same : ∀ l, l < m → inc a b l p = true → pol (dgt k cf) o w l = true → en k (fl (dgt k cf) (cmpn m a b (dgt k cf) o w l) o w) m = e := fun l hl hi hpl => by
          rw [← hne]
          exact (en_cong (tsp_post hk ow wk cg hl hpl hi)).symm
        have kb2 := kb first last2 q2 kd2 B4 O4
        constructor
        · intro z
          have z : kd2 e = 0 := (nI_ne (j := 0) (by have := kb2 e eT; omega) (by omega)).mp z
          -- there is a line of the pool at the post
          obtain ⟨l0, l1, l2, l3⟩ : ∃ l, l < m ∧ inc a b l p = true ∧ pol (dgt k cf) o w l = true := by
            rcases fst_ex (fun l => inc a b l p && pol (dgt k cf) o w l) m with ⟨l, y1, y2, _⟩ | y
            · simp only [Bool.and_eq_true] at y2
              exact ⟨l, y1, y2.1, y2.2⟩
            · exfalso
              have nC : ∀ l, l < m → Ch l = false := fun l hl => by
                cases u : Ch l with
                | false => rfl
                | true =>
                  exfalso
                  rw [cg l hl] at u
                  refine rch_ind u (fun _ => False) (fun j hj hpj hij => ?_) (fun _ _ _ _ _ hf _ => hf)
                  have := y j hj
                  rw [hij, hpj] at this
                  cases this
              have ee : e = cf := by
                rw [← hne, ← dgt_en' (B := k) (c := cf) (m := m) (by rw [← hT]; exact cfT)]
                refine en_cong (fun l hl => ?_)
                rw [dgt_en' (by rw [← hT]; exact cfT)]
                unfold fl
                rw [nC l hl]
                rfl
              have := (B4.1.2.2 first lf2).2.1
              rw [c2, ← ee, z] at this
              omega
          have ts : tsp m a b k (dgt k (q2 first)) (dgt k e) := by
            rw [c2]
            refine ⟨o, w, l0, ow, wk, l1, l3, fun j hj => ?_⟩
            rw [de j hj]
            exact tsp_post hk ow wk cg l1 l3 l2 j hj
          have B5 := BF_add B4 lf2 eT z ts
          have rm5 := BF_room B5
          have vfT := kb2 cf cfT
          refine ⟨vp_lt (by omega) (by omega), ?_⟩
          rw [rd_nI (show first < 2 ^ 31 by omega), Q5 first lf2, c2]
          refine ⟨vp_lt (by omega) (by omega), vp_lt (by omega) (by omega), ?_⟩
          rintro _ rfl
          refine ⟨vp_lt (by omega) (by omega), ?_⟩
          rintro _ rfl
          rw [nI_clamp (show e < 2 ^ 31 by omega), nI_clamp (show last2 < 2 ^ 31 by omega), rd_nI (show cf < 2 ^ 31 by omega), K5 cf cfT, nI_1 (kd2 cf), nI_1 last2]
          have hrec17' := hrec17
          refine hrec17' _ _ ⟨last2 + 1, ext1 q2 last2 e, ext1 kd2 e (kd2 (q2 first) + 1), rfl, by omega, by rw [x1_ne _ _ (by omega)]; exact c2, ?_, frF_w (frF_w fx (by simp) (by decide)) (by simp) (by decide), fun d hd => ?_, fun i hi => ?_, B5, fun d hd hod => ?_, fun e' he' => ?_, fun l _ hl hpp hpl => ?_⟩
          · have ne : ¬ cf = e := fun y => by
              have := (B4.1.2.2 first lf2).2.1
              rw [c2, y, z] at this
              omega
            rw [x1_ne _ _ ne]; exact v2
          · rw [wr_ne _ _ _ (by decide), wr_at, upd_if]
            by_cases y : d = e
            · rw [if_pos y, y, x1_at, c2]
            · rw [if_neg y, x1_ne _ _ y]; exact K5 d hd
          · rw [wr_at, upd_if]
            by_cases y : i = last2
            · rw [if_pos y, y, x1_at]
            · rw [if_neg y, x1_ne _ _ y, wr_ne _ _ _ (by decide)]; exact Q5 i (by omega)
          · have ne : ¬ d = e := fun y => by
              have := (B4.2.2.1 d hd).2 hod
              rw [y, z] at this
              exact this rfl
            rw [x1_ne _ _ ne]; exact O4 d hd hod
          · have := ex e' he'
            have ne : ¬ e' = e := fun y => by
              rw [y, z] at this
              rw [y, ← this] at he'
              exact he' rfl
            rw [x1_ne _ _ ne]; exact this
          · obtain ⟨p', pp1, pp2⟩ := hpp
            by_cases y : p' = p
            · rw [y] at pp2
              rw [same l hl pp2 hpl, x1_at, c2, v2]
              exact ⟨by omega, Or.inr (Nat.le_refl _)⟩
            · obtain ⟨g1', g2'⟩ := dn l ow hl ⟨p', by omega, pp2⟩ hpl
              by_cases y2 : en k (fl (dgt k cf) (cmpn m a b (dgt k cf) o w l) o w) m = e
              · rw [y2, z] at g1'; exact absurd rfl g1'
              · rw [x1_ne _ _ y2]; exact ⟨g1', g2'⟩
        · intro z
          have z : kd2 e ≠ 0 := fun y => z (by rw [y]; rfl)
          refine hrec17 _ _ ⟨last2, q2, kd2, rfl, ll2, c2, v2, fx, K5, Q5, B4, O4, ex, fun l _ hl hpp hpl => ?_⟩
          obtain ⟨p', pp1, pp2⟩ := hpp
          by_cases y : p' = p
          · rw [y] at pp2
            rw [same l hl pp2 hpl]
            refine ⟨z, ?_⟩
            rcases (B4.2.2.1 e eT).1 z with u | ⟨i, i1, i2⟩
            · exact Or.inl u
            · have := B4.2.2.2.1.2 lf2 i i1
              rw [i2, c2, v2] at this
              exact Or.inr this
          · exact dn l ow hl ⟨p', by omega, pp2⟩ hpl
      · refine br_t (nI_le ow (by omega)) (hrec10 _ _ ⟨last2, q2, kd2, rfl, ll2, c2, v2, f3, K4, Q4, B4, O4, fun pr' l h1 h2 h3 h4 => ?_⟩)
        by_cases y : pr' = pr
        · rw [y, ← ho', ← hw'] at h2; omega
        · exact good kd2 ex pr' l (by omega) h2 h3 h4
    · rintro rec17 _ θ ⟨last2, q2, kd2, rfl, ll2, c2, v2, f3, K4, Q4, B4, O4, ex, dn⟩
      have Mθ := RM_fr M f3 (by simp) (by simp)
      rw [Mθ.1]
      refine br_t (nI_le (Nat.le_refl _) (by omega)) (hrec10 _ _ ⟨last2, q2, kd2, rfl, ll2, c2, v2, f3, K4, Q4, B4, O4, fun pr' l h1 h2 h3 h4 => ?_⟩)
      by_cases y : pr' = pr
      · rw [y, ← ho', ← hw'] at h2 h4 ⊢
        have hwl := W.2.2.2.1 l h3
        exact dn l h2 h3 ⟨a l, by omega, inc_iff.mpr (Or.inl rfl)⟩ h4
      · exact good kd2 ex pr' l (by omega) h2 h3 h4
  · rintro rec10 _ ρ ⟨last1, q1, kd1, rfl, ll1, c1, v1, f2, K3, Q3, B3, O3, done⟩
    have rm1 := BF_room B3
    refine br_t (nI_le (Nat.le_refl _) (by omega)) ?_
    rw [nI_1 first]
    refine hrec6 _ _ _ ⟨last1, first + 1, q1, kd1, rfl, rfl, by omega, f2, K3, Q3, BF_next B3 (by omega) (fun e he hs => ?_), O3⟩ (by rw [nI_clamp (by omega), nI_clamp (by omega)]; omega)
    rw [c1] at hs
    obtain ⟨o, w, l, h1, h2, h3, h4, h5⟩ := hs
    have pk : (o * k + w) / k = o ∧ (o * k + w) % k = w := by
      rw [Nat.add_comm, Nat.add_mul_div_right _ _ (show 0 < k by omega), Nat.add_mul_mod_self_right, Nat.div_eq_of_lt h2, Nat.mod_eq_of_lt h2]
      omega
    have lt : o * k + w < k * k := by
      have := Nat.mul_le_mul_right k (show o + 1 ≤ k by omega)
      rw [Nat.add_mul, Nat.one_mul] at this
      omega
    have := done (o * k + w) l lt (by rw [pk.1, pk.2]; exact h1) h3 (by rw [pk.1, pk.2]; exact h4)
    rw [pk.1, pk.2] at this
    have ee : en k (fl (dgt k cf) (cmpn m a b (dgt k cf) o w l) o w) m = e := by
      rw [hT] at he
      rw [← dgt_en' he]
      exact (en_cong h5).symm
    rw [ee] at this
    rw [c1, v1]
    exact this
end
