/-! a dance in mind, if they may -/
def okp (t : TV) (a b : Nat) : Bool := decide (a < tn t) && (decide (b < tn t) && (!decide (a = b) && may t a b))
theorem okp_iff {t : TV} {a b : Nat} : okp t a b = true ↔ a < tn t ∧ b < tn t ∧ a ≠ b ∧ may t a b = true := by
  unfold okp
  simp
theorem s_sblN {F : St} {t : TV} {a b : Nat} {Q : Int32 → St → Prop} (hF : absF F t) (ht : okT t) (ha : a < 1000) (hb : b < 1000) (h1 : okp t a b = true → ∀ F', absF F' (nbT t a b) → Q 1 F') (h0 : okp t a b = false → Q 0 F) : wp_X2_stepByLeast F (nI a) (nI b) Q := by
  have hn := ht.1
  refine s_stepByLeast hF ht (fun p q g1 g2 g3 g4 g5 g6 => ?_) (fun hno => ?_)
  · rw [nI_inj8 ha (by omega)] at g4
    rw [nI_inj8 hb (by omega)] at g5
    subst g4; subst g5
    exact h1 (okp_iff.mpr ⟨g1, g2, g3, g6⟩)
  · cases c : okp t a b
    · exact h0 c
    · obtain ⟨g1, g2, g3, g4⟩ := okp_iff.mp c
      exact absurd ⟨a, b, g1, g2, g3, rfl, rfl, g4⟩ hno
/-- the reference's two tests and its dance -/
theorem s7_try {Y : St} {t : TV} {a b : Nat} {K0 K1 : St → Prop} (hF : absF (flM Y) t) (ht : okT t) (ha : a < 1000) (hb : b < 1000) (h1 : okp t a b = true → ∀ Y', absF (flM Y') (nbT t a b) → frm [] [3, 4] Y Y' → K1 Y') (h0 : okp t a b = false → K0 Y) :
    wp_X7_areTwo Y (nI a) (nI b) (fun r u => ((r = 0) → K0 u) ∧ ((¬ r = 0) → wp_X7_mayDance u (nI a) (nI b) (fun r2 u2 => ((r2 = 0) → K0 u2) ∧ ((¬ r2 = 0) → wp_X7_dancesByLeast u2 (nI a) (nI b) K1)))) := by
  have hn := ht.1
  refine s7_areTwo hF ht (fun p q g1 g2 g3 g4 g5 => br_f (by decide) ?_) (fun hno => br_t rfl (h0 ?_))
  · rw [nI_inj8 ha (by omega)] at g4
    rw [nI_inj8 hb (by omega)] at g5
    subst g4; subst g5
    refine s7_mayDance hF ht g1 g2 (bb (fun c => h0 ?_) (fun c => s7_dancesByLeast hF ht g1 g2 g3 (h1 (okp_iff.mpr ⟨g1, g2, g3, c⟩))))
    unfold okp
    rw [c]; simp
  · cases c : okp t a b
    · rfl
    · obtain ⟨g1, g2, g3, g4⟩ := okp_iff.mp c
      exact absurd ⟨a, b, g1, g2, g3, rfl, rfl⟩ hno
theorem okT_nb {t : TV} (ht : okT t) {a b : Nat} (h : okp t a b = true) : okT (nbT t a b) := by
  obtain ⟨g1, g2, g3, _⟩ := okp_iff.mp h
  exact okT_step ht g1 g2 g3
theorem nbT_n (t : TV) (a b : Nat) : tn (nbT t a b) = tn t := brT_n t a b _
/-! judged -/
def jgo (ps : Nat → Nat) : Nat → Nat → TV → Int32
  | 0, _, _ => -9
  | m + 1, i, t => if okp t (ps i / 10) (ps i % 10) then jgo ps m (i + 1) (nbT t (ps i / 10) (ps i % 10)) else nI i
theorem div10 {p : Nat} (hp : p < 100) : nI p / (10 : Int32) = nI (p / 10) := pk_div (d := 10) (by omega) (by omega) (by omega)
theorem rem10 {p : Nat} (hp : p < 100) : nI p - nI p / (10 : Int32) * (10 : Int32) = nI (p % 10) := pk_rem (d := 10) (by omega) (by omega) (by omega)
theorem l_firstWrong {E0 : St} {F : St} {ps : Nat → Nat} {R : Nat} {Q : Int32 → (St × (Nat → St)) → St → Prop} (hR : E0.1 0 = nI R) (hR6 : R ≤ 6) (hp : ∀ i, i < R → ps i < 100 ∧ E0.2 1 i = nI (ps i)) :
    ∀ (m i : Nat) (M : Nat → St) (t : TV), i + m = R → okT t → absF (M 0) t → (∀ M', Q (jgo ps m i t) (E0, M') F) → wp_X1_firstWrong_14 Q (m + 1) (E0, M) F (nI i)
  | 0, i, M, t, hi, ht, hF, h => by
    unfold wp_X1_firstWrong_14
    have : i = R := by omega
    subst this
    show ((E0.1 0) ≤ nI i → _) ∧ _
    rw [hR]
    exact br_t (nI_le (Nat.le_refl _) (by omega)) (h M)
  | m + 1, i, M, t, hi, ht, hF, h => by
    have hv : vp_in (nI i) 6 := vp_in_nI (by omega) (by omega)
    obtain ⟨p1, p2⟩ := hp i (by omega)
    unfold wp_X1_firstWrong_14
    show ((E0.1 0) ≤ nI i → _) ∧ (¬ (E0.1 0) ≤ nI i → vp_in (nI i) 6 ∧ (vp_in (nI i) 6 ∧ wp_X2_stepByLeast (M 0) (E0.2 1 (nI i).toNatClampNeg / 10) (E0.2 1 (nI i).toNatClampNeg - E0.2 1 (nI i).toNatClampNeg / 10 * 10) _))
    rw [hR, nI_clamp (n := i) (by omega), p2, rem10 p1, div10 p1]
    refine br_f (fun c => by rw [nI_leI (by omega) (by omega)] at c; omega) ⟨hv, hv, s_sblN hF ht (by omega) (by omega) (fun c F' g1 S10 e10 => ?_) (fun c S10 e10 => ?_)⟩
    · rw [nI_1, e10]
      refine bn_t (by decide) (l_firstWrong hR hR6 hp m (i + 1) _ (nbT t (ps i / 10) (ps i % 10)) (by omega) (okT_nb ht c) g1 (fun M' => ?_))
      have := h M'
      unfold jgo at this
      rw [if_pos c] at this
      exact this
    · rw [e10]
      refine bn_f rfl ?_
      have := h (va_up M 0 (M 0))
      unfold jgo at this
      rw [if_neg (by rw [c]; decide)] at this
      exact this
theorem flK_frm {Y Y' : St} {w : Nat} (h : Y'.2 15 = Y.2 15) : flK Y' w = flK Y w := by
  unfold flK; rw [h]
theorem l7_judged {Y1 : St} {t0 : TV} {ps o : Nat → Nat} {R : Nat} {Q : Int32 → St → Prop} (ht0 : okT t0) (hk : absF (flK Y1 1) t0) (hR : Y1.1 29 = nI R) (hR6 : R ≤ 6) (ho : ∀ i, i < R → o i < 6 ∧ Y1.2 28 i = nI (o i)) (hp : ∀ i, i < R → ps (o i) < 100 ∧ Y1.2 27 (o i) = nI (ps (o i))) (hQ : Int32)
    (h : ∀ Y', absF (flM Y') t0 → frm [5, 6, 17, 18] [1, 2, 3, 4] Y1 Y' → Q hQ Y') :
    ∀ (m i : Nat) (S : St) (t : TV), i + m = R → okT t → absF (flM S) t → frm [] [3, 4] Y1 S → jgo (fun k => ps (o k)) m i t = hQ → wp_X7_judged_11 Q (m + 2) S (-9) (nI i) := by
  have k92 : ∀ S, frm [] [3, 4] Y1 S → wp_X7_judged_92 Q S hQ := by
    intro S hS
    unfold wp_X7_judged_92
    refine s_passesAllR (w := 1) (by omega) (fun Y' fr hr => h Y' (hr t0 ht0.1 ?_) ?_)
    · rw [flK_frm (hS.2 15 (by decide))]; exact hk
    · exact (hS.mono (fun s z => absurd z List.not_mem_nil) (fun s z => by simp at z ⊢; omega)).tr fr
  intro m
  induction m with
  | zero =>
    intro i S t hi ht hF hS hj
    unfold wp_X7_judged_11
    have : i = R := by omega
    subst this
    rw [hS.1 29 (by decide), hR]
    have e : (-9 : Int32) = hQ := hj
    rw [e]
    exact br_t (nI_le (Nat.le_refl _) (by omega)) (k92 S hS)
  | succ m ih =>
    intro i S t hi ht hF hS hj
    obtain ⟨o1, o2⟩ := ho i (by omega)
    obtain ⟨p1, p2⟩ := hp i (by omega)
    have hv : vp_in (nI i) 6 := vp_in_nI (by omega) (by omega)
    have hvo : vp_in (nI (o i)) 6 := vp_in_nI (by omega) (by omega)
    unfold wp_X7_judged_11
    rw [hS.1 29 (by decide), hR, nI_clamp (n := i) (by omega), hS.2 28 (by decide), hS.2 27 (by decide), o2, nI_clamp (n := o i) (by omega), p2]
    refine br_f (fun c => by rw [nI_leI (by omega) (by omega)] at c; omega) (br_f (by decide) ⟨hv, hvo, fun z7 e7 => ⟨hv, hvo, fun z9 e9 => ?_⟩⟩)
    rw [div10 p1] at e7
    rw [rem10 p1] at e9
    rw [e7, e9, nI_1]
    unfold jgo at hj
    refine s7_try hF ht (by omega) (by omega) (fun c Y' g1 g2 => ?_) (fun c => ?_)
    · rw [if_pos c] at hj
      exact ih (i + 1) Y' _ (by omega) (okT_nb ht c) g1 (hS.tr g2) hj
    · rw [if_neg (by rw [c]; decide)] at hj
      -- found: one more turn
      unfold wp_X7_judged_11
      rw [hS.1 29 (by decide), hR, hj]
      by_cases d : nI R ≤ nI (i + 1)
      · exact br_t d (k92 S hS)
      · refine br_f d (br_t ?_ (k92 S hS))
        rw [← hj]; exact nI_pos' (by omega)
theorem s7_judged {Y : St} {t : TV} {ps o : Nat → Nat} {R : Nat} {Q : Int32 → St → Prop} (hF : absF (flM Y) t) (ht : okT t) (hR : Y.1 29 = nI R) (hR6 : R ≤ 6) (ho : ∀ i, i < R → o i < 6 ∧ Y.2 28 i = nI (o i)) (hp : ∀ i, i < R → ps (o i) < 100 ∧ Y.2 27 (o i) = nI (ps (o i)))
    (h : ∀ Y', absF (flM Y') t → frm [5, 6, 17, 18] [1, 2, 3, 4, 15] Y Y' → (∀ q, q < 34 → Y'.2 15 q = Y.2 15 q) → Q (jgo (fun k => ps (o k)) R 0 t) Y') : wp_X7_judged Y Q := by
  unfold wp_X7_judged
  refine s_passesAllK (w := 1) (by omega) (fun Y1 fr1 hk hq => ?_)
  refine ⟨R + 2, l7_judged (o := o) (ps := ps) ht (hk t ht.1 hF) (by rw [fr1.1 29 (by decide)]; exact hR) hR6 (fun i hi => by rw [fr1.2 28 (by decide)]; exact ho i hi) (fun i hi => by rw [fr1.2 27 (by decide)]; exact hp i hi) _ (fun Y' g1 g2 => h Y' g1 ?_ (fun q hq2 => ?_)) R 0 Y1 t (by omega) ht (flM_frm fr1 (by decide) (by decide) hF) frm.rf rfl⟩
  · exact (fr1.mono (fun s z => by simp at z ⊢; omega) (fun s z => by simp at z ⊢; omega)).tr (g2.mono (fun s z => z) (fun s z => by simp at z ⊢; omega))
  · rw [g2.2 15 (by decide)]; exact hq q (by omega)
theorem l7_judge {Y : St} {R : Nat} {Q : Int32 → St → Prop} (hR : Y.1 29 = nI R) (hR6 : R ≤ 6) (h : ∀ S, frm [] [28] Y S → (∀ i, i < R → S.2 28 i = nI i) → wp_X7_judged S (fun r u => Q r u)) :
    ∀ (m i : Nat) (S : St), i + m = R → frm [] [28] Y S → (∀ q, q < i → S.2 28 q = nI q) → wp_X7_judge_2 Q (m + 1) S (nI i)
  | 0, i, S, hi, hS, hq => by
    unfold wp_X7_judge_2
    have : i = R := by omega
    subst this
    rw [hS.1 29 (by decide), hR]
    exact br_t (nI_le (Nat.le_refl _) (by omega)) (h S hS hq)
  | m + 1, i, S, hi, hS, hq => by
    unfold wp_X7_judge_2
    rw [hS.1 29 (by decide), hR, nI_clamp (n := i) (by omega), nI_1]
    refine br_f (fun c => by rw [nI_leI (by omega) (by omega)] at c; omega) ⟨vp_in_nI (by omega) (by omega), fun S4 e4 => ?_⟩
    rw [e4]
    refine l7_judge hR hR6 h m (i + 1) _ (by omega) (hS.tr (frm.sA 28 _ _)) (fun q hq2 => ?_)
    rw [sA_s]
    by_cases c : q = i
    · rw [c, upd_s]
    · rw [upd_n _ _ c]; exact hq q (by omega)
/-- the row as numbers -/
theorem row_ps {G : AS} (hG : okG G) : ∃ ps : Nat → Nat, ∀ i, i < gR G → ps i < 100 ∧ gw G i = nI (ps i) := by
  refine ⟨fun i => (gw G i).toNatClampNeg, fun i hi => ?_⟩
  obtain ⟨p, h1, h2⟩ := hG.2.2.2.2.2 i hi
  show (gw G i).toNatClampNeg < 100 ∧ gw G i = nI (gw G i).toNatClampNeg
  rw [h2, nI_clamp (by omega)]
  exact ⟨h1, rfl⟩
theorem absX_ev {X : CS} {G : AS} (h : absX X G) (M : Nat → St) : absX (xe X (X.2.2.2.2.2.2.1, M)) G := h
theorem ls_judge : LS_20 Inv := by
  rintro X Y ⟨G, hG, hX, hY⟩
  obtain ⟨x1, x2, x3, x4, x5, x6, x7, x8⟩ := id hX
  obtain ⟨y1, y2, y3, y4, y5, y6, y7, y8⟩ := id hY
  have ht := hG.1
  have hR := hG.2.2.2.1
  obtain ⟨ps, hps⟩ := row_ps hG
  unfold wp_X6_judge wp_X1_firstWrong
  refine s_copyFrom ht x1 (fun F' g1 S5 e5 => ?_)
  rw [e5]
  refine ⟨_, l_firstWrong (ps := ps) x6 hR (fun i hi => ⟨(hps i hi).1, (x7 i hi).trans (hps i hi).2⟩) (gR G) 0 _ (gt G) (by omega) ht g1 (fun M' S6 e6 => ?_)⟩
  have hX6 : absX S6 G := by rw [e6]; exact hX
  refine ⟨_, l7_judge y6 hR (fun S fr hs => ?_) (gR G) 0 Y (by omega) frm.rf (fun q hq => by omega)⟩
  refine s7_judged (t := gt G) (o := fun i => i) (ps := ps) (flM_frm fr (by decide) (by decide) y1) ht (by rw [fr.1 29 (by decide)]; exact y6) hR (fun i hi => ⟨by omega, hs i hi⟩) (fun i hi => ⟨(hps i hi).1, by rw [fr.2 27 (by decide), y7 i hi]; exact (hps i hi).2⟩) (fun Y' k1 k2 k3 => ⟨rfl, G, hG, hX6, ?_⟩)
  have fr2 : frm [5, 6, 17, 18] [1, 2, 3, 4, 15, 28] Y Y' := (fr.mono (fun s z => absurd z List.not_mem_nil) (fun s z => by simp at z ⊢; omega)).tr (k2.mono (fun s z => z) (fun s z => by simp at z ⊢; omega))
  exact absY.of (t := gt G) hG hY k1 fr2 (by decide) (by decide) (fun q hq => by rw [k3 q hq, fr.2 15 (by decide)])
