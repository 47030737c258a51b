/-! counts and sums -/
def smN (f : Nat → Nat) : Nat → Nat
  | 0 => 0
  | n + 1 => smN f n + f n
theorem smN_s (f : Nat → Nat) (n : Nat) : smN f (n + 1) = smN f n + f n := rfl
theorem smN_le {f : Nat → Nat} {c : Nat} (h : ∀ i, f i ≤ c) : ∀ n, smN f n ≤ n * c
  | 0 => by simp [smN]
  | n + 1 => by
    have h1 := smN_le h n
    have h2 := h n
    rw [smN_s, Nat.succ_mul]; omega
def pdT (t : TV) : Nat := smN (fun i => cnt (te t i) 10) (tn t)
theorem pdT_le {t : TV} (ht : okT t) : pdT t ≤ 80 := by
  have h1 := smN_le (f := fun i => cnt (te t i) 10) (c := 10) (fun i => cnt_le _ 10) (tn t)
  have := ht.1
  unfold pdT; omega
theorem l_pairsDanced {F : St} {t : TV} {Q : Int32 → St → Prop} (hF : absF F t) (ht : okT t) (h : Q (nI (pdT t / 2)) F) : ∀ (m i : Nat), i + m = tn t → wp_X2_pairsDanced_4 Q (m + 1) F (nI (smN (fun i => cnt (te t i) 10) i)) (nI i)
  | 0, i, hi => by
    have hn := ht.1
    have hp := pdT_le ht
    unfold wp_X2_pairsDanced_4
    have : i = tn t := by omega
    subst this
    rw [hF.1]
    refine br_t (nI_le (Nat.le_refl _) (by omega)) ?_
    show Q (nI (pdT t) / 2) F
    rw [show (2 : Int32) = nI 2 from rfl, pk_div (by omega) (by omega) (by omega)]
    exact h
  | m + 1, i, hi => by
    have hn := ht.1
    have ih := l_pairsDanced hF ht h m (i + 1) (by omega)
    unfold wp_X2_pairsDanced_4
    rw [hF.1]
    refine br_f (fun c => by rw [nI_leI (by omega) (by omega)] at c; omega) ⟨vp_in_nI (by omega) (by omega), ?_⟩
    rw [nI_clamp (by omega)]
    refine s_bitCount (fun j hj => by rw [hF.2.2.2.2.2 i (by omega) j]; exact ht.big (by omega)) ?_
    rw [cnt_te hF (by omega), nI_add, nI_1]
    exact ih
theorem s_pairsDanced {F : St} {t : TV} {Q : Int32 → St → Prop} (hF : absF F t) (ht : okT t) (h : Q (nI (pdT t / 2)) F) : wp_X2_pairsDanced F Q := ⟨_, l_pairsDanced hF ht h (tn t) 0 (by omega)⟩
theorem l7_pairsDanced {Y : St} {t : TV} {Q : Int32 → St → Prop} (hF : absF (flM Y) t) (ht : okT t) (h : Q (nI (pdT t / 2)) Y) : ∀ (m i : Nat), i + m = tn t → wp_X7_pairsDanced_4 Q (m + 1) Y (nI (smN (fun i => cnt (te t i) 10) i)) (nI i)
  | 0, i, hi => by
    have hn := ht.1
    have hp := pdT_le ht
    unfold wp_X7_pairsDanced_4
    have : i = tn t := by omega
    subst this
    rw [show Y.1 5 = nI (tn t) from hF.1]
    refine br_t (nI_le (Nat.le_refl _) (by omega)) ?_
    show Q (nI (pdT t) / 2) Y
    rw [show (2 : Int32) = nI 2 from rfl, pk_div (by omega) (by omega) (by omega)]
    exact h
  | m + 1, i, hi => by
    have hn := ht.1
    have ih := l7_pairsDanced hF ht h m (i + 1) (by omega)
    unfold wp_X7_pairsDanced_4
    rw [show Y.1 5 = nI (tn t) from hF.1]
    refine br_f (fun c => by rw [nI_leI (by omega) (by omega)] at c; omega) ⟨vp_in_nI (by omega) (by omega), ?_⟩
    rw [nI_clamp (by omega)]
    refine s_bits (fun j hj => by rw [show bt (Y.2 4 i) j = te t i j from hF.2.2.2.2.2 i (by omega) j]; exact ht.big (by omega)) ?_
    rw [show cnt (bt (Y.2 4 i)) 10 = cnt (te t i) 10 from cnt_te hF (by omega), nI_add, nI_1]
    exact ih
theorem s7_pairsDanced {Y : St} {t : TV} {Q : Int32 → St → Prop} (hF : absF (flM Y) t) (ht : okT t) (h : Q (nI (pdT t / 2)) Y) : wp_X7_pairsDanced Y Q := ⟨_, l7_pairsDanced hF ht h (tn t) 0 (by omega)⟩
/-! 2 dancer -/
theorem ls_dancer : LS_2 Inv := by
  rintro X Y x1 x2 ⟨G, hG, hX, hY⟩
  have ht := hG.1
  have hn := ht.1
  have hF := hX.1
  have hM := hY.1
  unfold wp_X6_dancer
  refine s_isThere hF ht (fun a ha ea S3 e3 => bn_t (by decide) ?_) (fun hno S3 e3 => bn_f rfl ?_)
  · obtain rfl : S3 = X := e3
    subst ea
    have hv : vp_in (nI a) 8 := vp_in_nI (by omega) (by omega)
    have k7 : ∀ {Q : Int32 → St → Prop}, Q 1 Y → wp_X7_isDancer Y (nI a) Q := fun h => s7_isDancer hM ht (fun _ _ _ => h) (fun c => absurd rfl (c a ha))
    rw [nI_clamp (n := a) (by omega)]
    by_cases c0 : x2 = 0
    · refine br_t c0 ⟨hv, k7 (bn_t (by decide) (br_t c0 ⟨hv, ?_⟩))⟩
      rw [nI_clamp (n := a) (by omega)]
      exact ⟨(hF.2.2.1 a ha).trans (hM.2.2.1 a ha).symm, G, hG, hX, hY⟩
    · refine br_f c0 ?_
      by_cases c1 : x2 = 1
      · refine br_t c1 ⟨hv, k7 (bn_t (by decide) (br_f c0 (br_t c1 ⟨hv, ?_⟩)))⟩
        rw [nI_clamp (n := a) (by omega)]
        exact ⟨(hF.2.2.2.1 a ha).trans (hM.2.2.2.1 a ha).symm, G, hG, hX, hY⟩
      · refine br_f c1 ?_
        by_cases c2 : x2 = 2
        · refine br_t c2 ⟨hv, k7 (bn_t (by decide) (br_f c0 (br_f c1 (br_t c2 ⟨hv, ?_⟩))))⟩
          rw [nI_clamp (n := a) (by omega)]
          exact ⟨(hF.2.2.2.2.1 a ha).trans (hM.2.2.2.2.1 a ha).symm, G, hG, hX, hY⟩
        · refine br_f c2 ?_
          by_cases c3 : x2 = 3
          · refine br_t c3 ⟨hv, s_bitCount (fun i hi => by rw [hF.2.2.2.2.2 a ha i]; exact ht.big (by omega)) (k7 (bn_t (by decide) (br_f c0 (br_f c1 (br_f c2 (br_t c3 ⟨hv, ?_⟩))))))⟩
            rw [nI_clamp (n := a) (by omega)]
            refine s_bits (fun i hi => by rw [show bt (Y.2 4 a) i = te (gt G) a i from hM.2.2.2.2.2 a ha i]; exact ht.big (by omega)) ?_
            exact ⟨by rw [cnt_te hF ha, show cnt (bt (Y.2 4 a)) 10 = cnt (te (gt G) a) 10 from cnt_te hM ha], G, hG, hX, hY⟩
          · refine br_f c3 (s_refuse (k := 2) rfl (by omega) hX (fun X2 g1 => k7 (bn_t (by decide) (br_f c0 (br_f c1 (br_f c2 (br_f c3 (s7_no (k := 2) rfl (by omega) hY (fun Y2 g2 => ⟨rfl, _, hG.rf 2, g1, g2⟩)))))))))
  · obtain rfl : S3 = X := e3
    refine s_refuse (k := 1) rfl (by omega) hX (fun X2 g1 => s7_isDancer hM ht (fun a ha ea => absurd ea (hno a ha)) (fun _ => bn_f rfl (s7_no (k := 1) rfl (by omega) hY (fun Y2 g2 => ⟨rfl, _, hG.rf 1, g1, g2⟩))))
/-! 3 law -/
def lawT (t : TV) (l : Nat) : TV := (t.1, l, t.2.2)
theorem ls_law : LS_3 Inv := by
  rintro X Y x ⟨G, hG, hX, hY⟩
  have ht := hG.1
  have hF := hX.1
  have hM := hY.1
  by_cases c0 : x < 0
  · refine br_t c0 (bn_f rfl (s_refuse (k := 2) rfl (by omega) hX (fun X2 g1 => ?_)))
    exact br_t c0 (bn_f rfl (s7_no (k := 2) rfl (by omega) hY (fun Y2 g2 => ⟨rfl, _, hG.rf 2, g1, g2⟩)))
  · by_cases c2 : (2 : Int32) < x
    · refine br_f c0 (br_t c2 (bn_f rfl (s_refuse (k := 2) rfl (by omega) hX (fun X2 g1 => ?_))))
      exact br_f c0 (br_t c2 (bn_f rfl (s7_no (k := 2) rfl (by omega) hY (fun Y2 g2 => ⟨rfl, _, hG.rf 2, g1, g2⟩))))
    · obtain ⟨j, hj, ej⟩ : ∃ j, j ≤ 2 ∧ x = nI j := nI_of2 (M := 2) (n := 2) rfl c0 (by rw [Int32.lt_iff_toInt_lt] at c2; rw [Int32.le_iff_toInt_le]; omega)
      refine br_f c0 (br_f c2 (bn_t (by decide) (fun S3 e3 => ?_)))
      refine br_f c0 (br_f c2 (bn_t (by decide) (fun T3 f3 => ?_)))
      have hF' : absF (sI X.2.1 1 x) (lawT (gt G) j) := ⟨hF.1, by rw [sI_s]; exact ej, hF.2.2.1, hF.2.2.2.1, hF.2.2.2.2.1, hF.2.2.2.2.2⟩
      have hM' : absF (flM T3) (lawT (gt G) j) := by
        rw [f3]
        exact ⟨hM.1, by show (sI Y 6 x).1 6 = _; rw [sI_s]; exact ej, hM.2.2.1, hM.2.2.2.1, hM.2.2.2.2.1, hM.2.2.2.2.2⟩
      refine ⟨hF.2.1.trans hM.2.1.symm, setT G (lawT (gt G) j), ⟨⟨ht.1, hj, ht.2.2⟩, hG.2⟩, ?_, ?_⟩
      · rw [e3]; exact hX.xf hF'
      · refine hY.fr hG hM' (is := [6]) (as := []) ?_ (by decide) (by decide)
        rw [f3]; exact frm.sI 6 _
/-! 4 danced, 5 bringers, 6 may -/
theorem s_asNumber {b : Bool} {Q : Int32 → Prop} (h : Q (b2i b)) : wp_X6_asNumber (b2i b) Q := bb (fun e => by rw [e] at h; exact h) (fun e => by rw [e] at h; exact h)
theorem ls_danced : LS_4 Inv := by
  rintro X Y x1 x2 ⟨G, hG, hX, hY⟩
  have ht := hG.1
  have hn := ht.1
  unfold wp_X6_danced
  refine s_areTwo hX.1 ht (fun a b ha hb hab ea eb S3 e3 => bn_t (by decide) ?_) (fun hno S3 e3 => bn_f rfl ?_)
  · obtain rfl : S3 = X := e3
    subst ea; subst eb
    refine s_haveDanced hX.1 ht ha (by omega) (fun S8 e8 => s_asNumber ?_)
    obtain rfl : S8 = S3 := e8
    refine s7_areTwoN hY.1 ht ha hb hab (bn_t (by decide) (s7_haveDanced hY.1 ht ha (by omega) (bb (fun c => ⟨by rw [c]; rfl, G, hG, hX, hY⟩) (fun c => ⟨by rw [c]; rfl, G, hG, hX, hY⟩))))
  · obtain rfl : S3 = X := e3
    refine s_refuse (k := 1) rfl (by omega) hX (fun X2 g1 => s7_areTwo hY.1 ht (fun a b ha hb hab ea eb => absurd ⟨a, b, ha, hb, hab, ea, eb⟩ hno) (fun _ => bn_f rfl (s7_no (k := 1) rfl (by omega) hY (fun Y2 g2 => ⟨rfl, _, hG.rf 1, g1, g2⟩))))
theorem ls_bringers : LS_5 Inv := by
  rintro X Y x1 x2 ⟨G, hG, hX, hY⟩
  have ht := hG.1
  have hn := ht.1
  unfold wp_X6_bringers
  refine s_areTwo hX.1 ht (fun a b ha hb hab ea eb S3 e3 => bn_t (by decide) ?_) (fun hno S3 e3 => bn_f rfl ?_)
  · obtain rfl : S3 = X := e3
    subst ea; subst eb
    refine s_whoBring hX.1 ht ha hb (fun S8 e8 => ?_)
    obtain rfl : S8 = S3 := e8
    refine s7_areTwoN hY.1 ht ha hb hab ?_
    first
      | exact br_f (by decide) (s7_bringersOf hY.1 ht ha hb ⟨rfl, G, hG, hX, hY⟩)
      | exact bn_t (by decide) (s7_bringersOf hY.1 ht ha hb ⟨rfl, G, hG, hX, hY⟩)
  · obtain rfl : S3 = X := e3
    refine s_refuse (k := 1) rfl (by omega) hX (fun X2 g1 => s7_areTwo hY.1 ht (fun a b ha hb hab ea eb => absurd ⟨a, b, ha, hb, hab, ea, eb⟩ hno) (fun _ => ?_))
    first
      | exact br_t rfl (s7_no (k := 1) rfl (by omega) hY (fun Y2 g2 => ⟨rfl, _, hG.rf 1, g1, g2⟩))
      | exact bn_f rfl (s7_no (k := 1) rfl (by omega) hY (fun Y2 g2 => ⟨rfl, _, hG.rf 1, g1, g2⟩))
theorem ls_may : LS_6 Inv := by
  rintro X Y x1 x2 ⟨G, hG, hX, hY⟩
  have ht := hG.1
  have hn := ht.1
  unfold wp_X6_may
  refine s_areTwo hX.1 ht (fun a b ha hb hab ea eb S3 e3 => bn_t (by decide) ?_) (fun hno S3 e3 => bn_f rfl ?_)
  · obtain rfl : S3 = X := e3
    subst ea; subst eb
    refine s_isAllowed hX.1 ht ha hb (fun S8 e8 => s_asNumber ?_)
    obtain rfl : S8 = S3 := e8
    refine s7_areTwoN hY.1 ht ha hb hab (bn_t (by decide) (s7_mayDance hY.1 ht ha hb (bb (fun c => ⟨by rw [c]; rfl, G, hG, hX, hY⟩) (fun c => ⟨by rw [c]; rfl, G, hG, hX, hY⟩))))
  · obtain rfl : S3 = X := e3
    refine s_refuse (k := 1) rfl (by omega) hX (fun X2 g1 => s7_areTwo hY.1 ht (fun a b ha hb hab ea eb => absurd ⟨a, b, ha, hb, hab, ea, eb⟩ hno) (fun _ => bn_f rfl (s7_no (k := 1) rfl (by omega) hY (fun Y2 g2 => ⟨rfl, _, hG.rf 1, g1, g2⟩))))
/-! 7 dance -/
theorem okT_step {t : TV} (ht : okT t) {a b y : Nat} (ha : a < tn t) (hb : b < tn t) (hab : a ≠ b) : okT (stepT t a b y) := by
  unfold stepT
  have := brT_n t a b y
  exact (okT_brT ht a b y).add (by omega) (by omega) hab
theorem ls_dance : LS_7 Inv := by
  rintro X Y x1 x2 x3 ⟨G, hG, hX, hY⟩
  have ht := hG.1
  have hn := ht.1
  have hM := hY.1
  unfold wp_X6_dance
  refine s_areTwo hX.1 ht (fun a b ha hb hab ea eb S3 e3 => bn_t (by decide) ?_) (fun hno S3 e3 => bn_f rfl ?_)
  · obtain rfl : S3 = X := e3
    subst ea; subst eb
    have k7 : ∀ {Q : Int32 → St → Prop}, Q 1 Y → wp_X7_areTwo Y (nI a) (nI b) Q := fun h => s7_areTwoN hM ht ha hb hab h
    refine s_isAllowedBy hX.1 ht ha hb (fun y hy ey S8 e8 => ?_) (fun hno S8 e8 => ?_)
    · obtain rfl : S8 = S3 := e8
      subst ey
      refine bb' (fun c => s_step hX.1 ht ha hb hab (by omega) (fun F' g1 S13 e13 => ?_)) (fun c => s_refuse (k := 3) rfl (by omega) hX (fun X2 g1 => ?_))
      · have ht' := okT_step (y := y) ht ha hb hab
        have hX13 : absX S13 (setT G (stepT (gt G) a b y)) := by rw [e13]; exact hX.xf g1
        refine s_pairsDanced hX13.1 ht' (fun S17 e17 => ?_)
        obtain rfl : S17 = S13 := e17
        rw [wy_can ht hy] at c
        simp only [Bool.and_eq_true] at c
        have hy2 : y < tn (gt G) ∨ y = 9 := by
          by_cases c9 : y = 9
          · exact Or.inr c9
          · have := c.2
            rw [if_neg c9] at this
            exact Or.inl (brg_lt ht this)
        refine k7 (bn_t (by decide) (s7_mayDance hM ht ha hb (bb (fun d => by rw [c.1] at d; cases d) (fun d => s7_canBy hM ht ha hb (fun y2 hy2' ey2 => ?_) (fun z => absurd rfl (z y hy))))))
        have : y = y2 := (nI_inj8 (by omega) (by omega)).mp ey2
        subst this
        refine bb' (fun f => s7_dances hM ht ha hb hab hy2 (fun Y' m1 m2 => ?_)) (fun f => by rw [c.2] at f; cases f)
        exact s7_pairsDanced m1 ht' ⟨rfl, setT G (stepT (gt G) a b y), ⟨ht', hG.2⟩, hX13, hY.fr hG m1 m2 (by decide) (by decide)⟩
      · rw [wy_can ht hy] at c
        have kno : ∀ {Q : Int32 → St → Prop}, (∀ Y2, absY Y2 (rfG G 3) → Q (-3) Y2) → wp_X7_no Y (-3) Q := fun h => s7_no (k := 3) rfl (by omega) hY h
        refine k7 (bn_t (by decide) (s7_mayDance hM ht ha hb (bb (fun d => kno (fun Y2 g2 => ⟨rfl, _, hG.rf 3, g1, g2⟩)) (fun d => s7_canBy hM ht ha hb (fun y2 hy2' ey2 => ?_) (fun z => absurd rfl (z y hy))))))
        have : y = y2 := (nI_inj8 (by omega) (by omega)).mp ey2
        subst this
        refine bb' (fun f => by rw [d, f] at c; cases c) (fun f => kno (fun Y2 g2 => ⟨rfl, _, hG.rf 3, g1, g2⟩))
    · obtain rfl : S8 = S3 := e8
      refine bn_f rfl (s_refuse (k := 3) rfl (by omega) hX (fun X2 g1 => ?_))
      have kno : ∀ {Q : Int32 → St → Prop}, (∀ Y2, absY Y2 (rfG G 3) → Q (-3) Y2) → wp_X7_no Y (-3) Q := fun h => s7_no (k := 3) rfl (by omega) hY h
      exact k7 (bn_t (by decide) (s7_mayDance hM ht ha hb (bb (fun d => kno (fun Y2 g2 => ⟨rfl, _, hG.rf 3, g1, g2⟩)) (fun d => s7_canBy hM ht ha hb (fun y2 hy2' ey2 => absurd ey2 (hno y2 hy2')) (fun z => bn_f rfl (kno (fun Y2 g2 => ⟨rfl, _, hG.rf 3, g1, g2⟩)))))))
  · obtain rfl : S3 = X := e3
    refine s_refuse (k := 1) rfl (by omega) hX (fun X2 g1 => s7_areTwo hM ht (fun a b ha hb hab ea eb => absurd ⟨a, b, ha, hb, hab, ea, eb⟩ hno) (fun _ => bn_f rfl (s7_no (k := 1) rfl (by omega) hY (fun Y2 g2 => ⟨rfl, _, hG.rf 1, g1, g2⟩))))
