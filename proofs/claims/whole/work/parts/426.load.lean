/-! 21 load: the loads that can be -/
abbrev LSt : Type := TV × (Nat → Nat) × Nat
def wb (ps : Nat → Nat) (s : LSt) (k y : Nat) : Bool := okp s.1 (ps k / 10) (ps k % 10) && (if csn s.1 (ps k / 10) (ps k % 10) then decide (y = 9) else brg s.1 y (ps k / 10) (ps k % 10))
def nsb (ps : Nat → Nat) (s : LSt) (k y : Nat) : LSt := (stepT s.1 (ps k / 10) (ps k % 10) y, if y = 9 then s.2.1 else (fun z => if z = y then s.2.1 z + 1 else s.2.1 z), if y = 9 then s.2.2 else if s.2.2 < s.2.1 y + 1 then s.2.1 y + 1 else s.2.2)
def Ld (ps : Nat → Nat) : Nat → Nat → LSt → Nat → Prop
  | 0, _, s, v => v = s.2.2
  | m + 1, k, s, v => ∃ y, wb ps s k y = true ∧ Ld ps m (k + 1) (nsb ps s k y) v
theorem Ld_s (ps : Nat → Nat) (m k : Nat) (s : LSt) (v : Nat) : Ld ps (m + 1) k s v = ∃ y, wb ps s k y = true ∧ Ld ps m (k + 1) (nsb ps s k y) v := rfl
theorem nsb_mo (ps : Nat → Nat) (s : LSt) (k y : Nat) : s.2.2 ≤ (nsb ps s k y).2.2 := by
  show s.2.2 ≤ (if y = 9 then s.2.2 else if s.2.2 < s.2.1 y + 1 then s.2.1 y + 1 else s.2.2)
  split
  · exact Nat.le_refl _
  · split
    · omega
    · exact Nat.le_refl _
theorem Ld_mono {ps : Nat → Nat} {v : Nat} : ∀ {m k : Nat} {s : LSt}, Ld ps m k s v → s.2.2 ≤ v
  | 0, _, s, h => by
    have h' : v = s.2.2 := h
    omega
  | m + 1, k, s, ⟨y, _, h⟩ => Nat.le_trans (nsb_mo ps s k y) (Ld_mono h)
theorem nsb_ld {ps : Nat → Nat} {s : LSt} (k y : Nat) (h : ∀ z, s.2.1 z ≤ s.2.2) : (∀ z, (nsb ps s k y).2.1 z ≤ (nsb ps s k y).2.2) ∧ (nsb ps s k y).2.2 ≤ s.2.2 + 1 := by
  show (∀ z, (if y = 9 then s.2.1 else (fun z => if z = y then s.2.1 z + 1 else s.2.1 z)) z ≤ (if y = 9 then s.2.2 else if s.2.2 < s.2.1 y + 1 then s.2.1 y + 1 else s.2.2)) ∧ (if y = 9 then s.2.2 else if s.2.2 < s.2.1 y + 1 then s.2.1 y + 1 else s.2.2) ≤ s.2.2 + 1
  by_cases c : y = 9
  · rw [if_pos c, if_pos c]
    exact ⟨h, by omega⟩
  · rw [if_neg c, if_neg c]
    have hy := h y
    refine ⟨fun z => ?_, ?_⟩
    · have hz := h z
      show (if z = y then s.2.1 z + 1 else s.2.1 z) ≤ _
      by_cases d : z = y
      · rw [if_pos d, d]; split <;> omega
      · rw [if_neg d]; split <;> omega
    · split <;> omega
theorem Ld_le {ps : Nat → Nat} {v : Nat} : ∀ {m k : Nat} {s : LSt}, (∀ z, s.2.1 z ≤ s.2.2) → Ld ps m k s v → v ≤ s.2.2 + m
  | 0, _, s, _, h => by
    have h' : v = s.2.2 := h
    omega
  | m + 1, k, s, hs, ⟨y, _, h⟩ => by
    obtain ⟨h1, h2⟩ := nsb_ld (ps := ps) k y hs
    have := Ld_le h1 h
    omega
def okL (t0 : TV) (s : LSt) : Prop := okT s.1 ∧ tn s.1 = tn t0 ∧ tl s.1 ≠ 1 ∧ (∀ y, y < tn t0 → tb s.1 y = nI (s.2.1 y) + tb t0 y) ∧ ∀ y, s.2.1 y ≤ s.2.2
theorem brT_l (t : TV) (a b y : Nat) : tl (brT t a b y) = tl t := by
  unfold brT
  split
  · split
    · split <;> rfl
    · rfl
  · rfl
theorem stepT_l (t : TV) (a b y : Nat) : tl (stepT t a b y) = tl t := brT_l t a b y
theorem stepT_b {t : TV} (h : tl t ≠ 1) (a b y z : Nat) : tb (stepT t a b y) z = if y < tn t ∧ z = y then tb t z + 1 else tb t z := by
  show tb (brT t a b y) z = _
  unfold brT
  by_cases c : y < tn t
  · rw [if_pos c, if_neg h]
    show (if z = y then tb t z + 1 else tb t z) = _
    by_cases d : z = y
    · rw [if_pos d, if_pos ⟨c, d⟩]
    · rw [if_neg d, if_neg (fun w => d w.2)]
  · rw [if_neg c, if_neg (fun w => c w.1)]
theorem wb_or {ps : Nat → Nat} {s : LSt} {k y : Nat} (ht : okT s.1) (h : wb ps s k y = true) : (ps k / 10 < tn s.1 ∧ ps k % 10 < tn s.1 ∧ ps k / 10 ≠ ps k % 10 ∧ may s.1 (ps k / 10) (ps k % 10) = true) ∧ (y < tn s.1 ∨ y = 9) := by
  unfold wb at h
  rw [Bool.and_eq_true] at h
  refine ⟨okp_iff.mp h.1, ?_⟩
  have h2 := h.2
  cases c : csn s.1 (ps k / 10) (ps k % 10)
  · rw [c, if_neg (by decide)] at h2
    exact Or.inl (brg_lt ht h2)
  · rw [c, if_pos rfl] at h2
    exact Or.inr (by simpa using h2)
theorem okL_n {ps : Nat → Nat} {t0 : TV} {s : LSt} {k y : Nat} (h : okL t0 s) (hw : wb ps s k y = true) : okL t0 (nsb ps s k y) := by
  obtain ⟨h1, h2, h3, h4, h5⟩ := h
  obtain ⟨⟨w1, w2, w3, w4⟩, w5⟩ := wb_or h1 hw
  have hn := h1.1
  refine ⟨okT_step h1 w1 w2 w3, (stepT_n _ _ _ _).trans h2, by show tl (stepT _ _ _ _) ≠ 1; rw [stepT_l]; exact h3, fun z hz => ?_, (nsb_ld k y h5).1⟩
  show tb (stepT s.1 _ _ y) z = nI ((if y = 9 then s.2.1 else (fun z => if z = y then s.2.1 z + 1 else s.2.1 z)) z) + tb t0 z
  rw [stepT_b h3]
  by_cases c : y = 9
  · rw [if_pos c, if_neg (by omega)]; exact h4 z hz
  · rw [if_neg c]
    show _ = nI (if z = y then s.2.1 z + 1 else s.2.1 z) + tb t0 z
    by_cases d : z = y
    · rw [if_pos ⟨by omega, d⟩, if_pos d, h4 z hz, ← nI_1, Int32.add_assoc, Int32.add_assoc, Int32.add_comm (tb t0 z) 1]
    · rw [if_neg (fun w => d w.2), if_neg d]; exact h4 z hz
/-! the class -/
def LR (ps : Nat → Nat) (m k : Nat) (s : LSt) (known r : Nat) : Prop := r ≤ known ∧ (∀ v, Ld ps m k s v → r ≤ v) ∧ (r = known ∨ Ld ps m k s r)
def GL (R7 : WS → Int32 → Int32 → Int32 → (Int32 → WS → Prop) → Prop) (E : St) (t0 : TV) (ps : Nat → Nat) (k m : Nat) : Prop :=
  ∀ (M : Nat → St) (s : LSt) (known : Nat) (Q : Int32 → WS → Prop), okL t0 s → absF (M k) s.1 → absF (M 0) t0 → s.2.2 < known → known ≤ 7 → (∀ r M', (∀ i, i ≤ k → M' i = M i) → LR ps m k s known r → Q (nI r) (E, M')) → R7 (E, M) (nI k) (nI s.2.2) (nI known) Q
theorem s_bTon {E : St} {M : Nat → St} {ps : Nat → Nat} {t0 : TV} {s : LSt} {k y : Nat} {Q : Int32 → WS → Prop} (hs : okL t0 s) (hw : wb ps s k y = true) (h1 : absF (M (k + 1)) (nsb ps s k y).1) (h0 : absF (M 0) t0) (h : ∀ r M', (if nI s.2.2 < r then r else nI s.2.2) = nI (nsb ps s k y).2.2 → (∀ i, M' i = M i) → Q r (E, M')) (hmo : s.2.2 ≤ 10) : wp_X1_broughtTonight (E, M) (k + 1) (nI y) Q := by
  have hs' := okL_n hs hw
  have hn := hs.1.1
  have hn2 := hs.2.1
  have hn3 : tn (nsb ps s k y).1 = tn t0 := hs'.2.1
  obtain ⟨_, w5⟩ := wb_or hs.1 hw
  have hup : ∀ i, va_up M (k + 1) (M (k + 1)) i = M i := fun i => by
    by_cases w : i = k + 1
    · rw [w, up_s]
    · rw [up_n _ _ w]
  unfold wp_X1_broughtTonight
  refine s_isThere (t := (nsb ps s k y).1) h1 hs'.1 (fun a ha ea S3 e3 => br_f (by decide) ?_) (fun hno S3 e3 => br_t rfl ?_)
  · have ey : y = a := (nI_inj8 (by omega) (by omega)).mp ea
    have e3' : S3 = (E, va_up M (k + 1) (M (k + 1))) := e3
    have hv : vp_in (nI y) 8 := vp_in_nI (by omega) (by omega)
    rw [e3']
    refine ⟨hv, hv, ?_⟩
    rw [nI_clamp (n := y) (by omega)]
    show Q ((va_up M (k + 1) (M (k + 1)) (k + 1)).2 4 y - (va_up M (k + 1) (M (k + 1)) 0).2 4 y) _
    rw [hup, hup, h1.2.2.2.2.1 y (by omega), h0.2.2.2.2.1 y (by omega), hs'.2.2.2.1 y (by omega), Int32.add_sub_cancel]
    refine h _ _ ?_ hup
    have c9 : y ≠ 9 := by omega
    have hly := hs.2.2.2.2 y
    have e1 : (nsb ps s k y).2.1 y = s.2.1 y + 1 := by
      show (if y = 9 then s.2.1 else (fun z => if z = y then s.2.1 z + 1 else s.2.1 z)) y = _
      rw [if_neg c9]; exact if_pos rfl
    have e2 : (nsb ps s k y).2.2 = if s.2.2 < s.2.1 y + 1 then s.2.1 y + 1 else s.2.2 := if_neg c9
    rw [e1, e2]
    by_cases d : s.2.2 < s.2.1 y + 1
    · rw [if_pos d, if_pos ((nI_ltI (by omega) (by omega)).mpr d)]
    · rw [if_neg d, if_neg (fun z => d ((nI_ltI (by omega) (by omega)).mp z))]
  · have c9 : y = 9 := by
      rcases w5 with z | z
      · exact absurd rfl (hno y (by omega))
      · exact z
    have e3' : S3 = (E, va_up M (k + 1) (M (k + 1))) := e3
    rw [e3']
    refine h _ _ ?_ hup
    have e2 : (nsb ps s k y).2.2 = s.2.2 := if_pos c9
    rw [e2, if_neg (nI_pos (by omega))]
theorem l_ll106 {R7 : WS → Int32 → Int32 → Int32 → (Int32 → WS → Prop) → Prop} {E : St} {t0 : TV} {ps : Nat → Nat} {k m known y0 : Nat} {M0 : Nat → St} {s : LSt} {Q : Int32 → WS → Prop} (hk : k < 6) (hs : okL t0 s) (hM : absF (M0 k) s.1) (hM0 : absF (M0 0) t0) (ha : ps k / 10 < tn s.1) (hb : ps k % 10 < tn s.1) (hab : ps k / 10 ≠ ps k % 10) (hmo : s.2.2 < known) (hkn : known ≤ 7) (hG : GL R7 E t0 ps (k + 1) m)
    (hbit : ∀ y, y0 ≤ y → y ≤ 9 → wy s.1 (ps k / 10) (ps k % 10) y = wb ps s k y)
    (hQ : ∀ r M', (∀ i, i ≤ k → M' i = M0 i) → LR ps (m + 1) k s known r → Q (nI r) (E, M')) :
    ∀ (n y l : Nat) (M : Nat → St), y + n = 10 → y0 ≤ y → (∀ i, i ≤ k → M i = M0 i) → l ≤ known → (∀ y', y' < y → wb ps s k y' = true → ∀ v, Ld ps m (k + 1) (nsb ps s k y') v → l ≤ v) → (l = known ∨ Ld ps (m + 1) k s l) → wp_X1_leastLoadFrom_106 R7 (nI k) (nI s.2.2) (nI known) Q (n + 1) (E, M) (nI (ps k / 10)) (nI (ps k % 10)) (mkI (wy s.1 (ps k / 10) (ps k % 10)) 10) (nI l) (nI y)
  | 0, y, l, M, hy, hy0, hlo, h1, h2, h3 => by
    have hn := hs.1.1
    have : y = 10 := by omega
    subst this
    unfold wp_X1_leastLoadFrom_106
    refine br_t (by decide) (hQ l M hlo ⟨h1, ?_, h3⟩)
    rintro v ⟨y, w1, w2⟩
    have := (wb_or hs.1 w1).2
    exact h2 y (by omega) w1 v w2
  | n + 1, y, l, M, hy, hy0, hlo, h1, h2, h3 => by
    have hn := hs.1.1
    have ih := l_ll106 hk hs hM hM0 ha hb hab hmo hkn hG hbit hQ n (y + 1)
    unfold wp_X1_leastLoadFrom_106
    rw [nI_1 k, nI_1 y, nI_clamp (n := k) (by omega), nI_clamp (n := k + 1) (by omega)]
    refine br_f (fun c => by rw [show (9 : Int32) = nI 9 from rfl, nI_ltI (by omega) (by omega)] at c; omega) (s_hasBit (by omega) ?_)
    rw [b_mkI _ _ 10 (by omega), show decide (y < 10) = true by simp; omega, Bool.true_and, hbit y hy0 (by omega)]
    refine bb (fun c => ih l M (by omega) (by omega) hlo h1 (fun y' hy' w => ?_) h3) (fun c => ⟨by omega, s_copyFrom (t := s.1) hs.1 (by show absF (M k) s.1; rw [hlo k (Nat.le_refl _)]; exact hM) (fun u24 h24 S28 e28 => ?_)⟩)
    · rcases Nat.lt_or_ge y' y with q | q
      · exact h2 y' q w
      · rw [show y' = y by omega, c] at w; cases w
    · have e28' : S28 = (E, va_up (va_up M (k + 1) u24) k (M k)) := e28
      rw [e28']
      refine s_step (t := s.1) (by show absF (va_up (va_up M (k + 1) u24) k (M k) (k + 1)) s.1; rw [up_n _ _ (by omega), up_s]; exact h24) hs.1 ha hb hab (by omega) (fun u31 h31 S32 e32 => ?_)
      have e32' : S32 = (E, va_up (va_up (va_up M (k + 1) u24) k (M k)) (k + 1) u31) := e32
      rw [e32']
      have hlow : ∀ i, i ≤ k → va_up (va_up (va_up M (k + 1) u24) k (M k)) (k + 1) u31 i = M0 i := fun i hi' => by
        rw [up_n _ _ (by omega)]
        by_cases w : i = k
        · rw [w, up_s, hlo k (Nat.le_refl _)]
        · rw [up_n _ _ w, up_n _ _ (by omega), hlo i hi']
      have hk1 : absF (va_up (va_up (va_up M (k + 1) u24) k (M k)) (k + 1) u31 (k + 1)) (nsb ps s k y).1 := by rw [up_s]; exact h31
      have hz0 : absF (va_up (va_up (va_up M (k + 1) u24) k (M k)) (k + 1) u31 0) t0 := by rw [hlow 0 (Nat.zero_le _)]; exact hM0
      generalize va_up (va_up (va_up M (k + 1) u24) k (M k)) (k + 1) u31 = M3 at hlow hk1 hz0
      refine s_bTon hs c hk1 hz0 (fun r M4 er h4 => ?_) (by omega)
      rw [er]
      have hmo' := (nsb_ld (ps := ps) k y hs.2.2.2.2).2
      by_cases d : l ≤ (nsb ps s k y).2.2
      · refine br_t (nI_le d (by omega)) (ih l M4 (by omega) (by omega) (fun i hi => by rw [h4, hlow i hi]) h1 (fun y' hy' w v hv => ?_) h3)
        rcases Nat.lt_or_ge y' y with q | q
        · exact h2 y' q w v hv
        · rw [show y' = y by omega] at hv
          exact Nat.le_trans d (Ld_mono hv)
      · refine br_f (fun z => d ((nI_leI (by omega) (by omega)).mp z)) (hG M4 (nsb ps s k y) l _ (okL_n hs c) (by rw [h4]; exact hk1) (by rw [h4]; exact hz0) (by omega) (by omega) (fun r M5 h5 hr => ?_))
        obtain ⟨r1, r2, r3⟩ := hr
        refine ih r M5 (by omega) (by omega) (fun i hi => by rw [h5 i (by omega), h4, hlow i hi]) (by omega) (fun y' hy' w v hv => ?_) ?_
        · rcases Nat.lt_or_ge y' y with q | q
          · exact Nat.le_trans r1 (h2 y' q w v hv)
          · rw [show y' = y by omega] at hv
            exact r2 v hv
        · rcases r3 with q | q
          · rw [q]; exact h3
          · exact Or.inr ⟨y, c, q⟩
theorem s_llf {E : St} {t0 : TV} {ps : Nat → Nat} {R : Nat} (hR : E.1 0 = nI R) (hR6 : R ≤ 6) (hp : ∀ i, i < R → ps i < 100 ∧ E.2 1 i = nI (ps i)) : ∀ (m d k : Nat), k + m = R → m + 1 ≤ d → GL (wp_X1_leastLoadFrom d) E t0 ps k m := by
  intro m
  induction m with
  | zero =>
    intro d k hk hd M s known Q hs hM hM0 hmo hkn hQ
    obtain ⟨d', rfl⟩ : ∃ d', d = d' + 1 := ⟨d - 1, by omega⟩
    unfold wp_X1_leastLoadFrom wp_X1_leastLoadFrom_b
    show (E.1 0 ≤ nI k → _) ∧ _
    rw [hR]
    refine br_t (nI_le (by omega) (by omega)) (hQ _ M (fun _ _ => rfl) ⟨by omega, fun v hv => ?_, Or.inr rfl⟩)
    have hv' : v = s.2.2 := hv
    omega
  | succ m ih =>
    intro d k hk hd M s known Q hs hM hM0 hmo hkn hQ
    obtain ⟨d', rfl⟩ : ∃ d', d = d' + 1 := ⟨d - 1, by omega⟩
    have hn := hs.1.1
    obtain ⟨p1, p2⟩ := hp k (by omega)
    have hv6 : vp_in (nI k) 6 := vp_in_nI (by omega) (by omega)
    unfold wp_X1_leastLoadFrom wp_X1_leastLoadFrom_b
    rw [nI_1 k, nI_clamp (n := k) (by omega)]
    show (E.1 0 ≤ nI k → _) ∧ (¬ E.1 0 ≤ nI k → (nI k < 6 → _ ∧ _ ∧ _ ∧ ∀ z_5 : Int32, z_5 = E.2 1 k / 10 → _ ∧ ∀ z_7 : Int32, z_7 = E.2 1 k - E.2 1 k / 10 * 10 → _) ∧ _)
    rw [hR, p2, rem10 p1, div10 p1]
    refine br_f (fun c => by rw [nI_leI (by omega) (by omega)] at c; omega) (br_t (by rw [show (6 : Int32) = nI 6 from rfl, nI_ltI (by omega) (by omega)]; omega) ⟨vp_in_nI (by omega) (by omega), vp_in_nI (by omega) (by omega), hv6, fun z5 e5 => ⟨hv6, fun z7 e7 => ?_⟩⟩)
    rw [e5, e7]
    have hup : ∀ i, va_up M k (M k) i = M i := fun i => by
      by_cases w : i = k
      · rw [w, up_s]
      · rw [up_n _ _ w]
    refine s_areTwo (t := s.1) hM hs.1 (fun a b ha hb hab ea eb S11 e11 => bn_t (by decide) ?_) (fun hno S11 e11 => bn_f rfl ?_)
    · rw [nI_inj8 (by omega) (by omega)] at ea eb
      subst ea; subst eb
      have e11' : S11 = (E, va_up M k (M k)) := e11
      rw [e11']
      refine s_waysToDance (t := s.1) (by show absF (va_up M k (M k) k) s.1; rw [hup]; exact hM) hs.1 ha hb (fun S16 e16 => s_hasBit (j := 9) (by omega) ?_)
      have e16' : S16 = (E, va_up (va_up M k (M k)) k (va_up M k (M k) k)) := e16
      have hup2 : ∀ i, va_up (va_up M k (M k)) k (va_up M k (M k) k) i = M i := fun i => by
        by_cases w : i = k
        · rw [w, up_s, hup]
        · rw [up_n _ _ w, hup]
      rw [e16', b_mkI _ _ 10 (by omega), show decide (9 < 10) = true from rfl, Bool.true_and]
      generalize va_up (va_up M k (M k)) k (va_up M k (M k) k) = M2 at hup2
      have hok : okp s.1 (ps k / 10) (ps k % 10) = may s.1 (ps k / 10) (ps k % 10) := by
        unfold okp
        rw [show decide (ps k / 10 < tn s.1) = true by simpa using ha, show decide (ps k % 10 < tn s.1) = true by simpa using hb, show decide (ps k / 10 = ps k % 10) = false by simpa using hab]
        simp
      have h9 : wy s.1 (ps k / 10) (ps k % 10) 9 = (may s.1 (ps k / 10) (ps k % 10) && csn s.1 (ps k / 10) (ps k % 10)) := by
        rw [wy_can hs.1 (Nat.le_refl _), if_pos rfl]
      refine bb (fun c => ⟨11, l_ll106 (y0 := 0) (by omega) hs (by rw [hup2]; exact hM) (by rw [hup2]; exact hM0) ha hb hab hmo hkn (ih d' (k + 1) (by omega) (by omega)) (fun y _ hy9 => ?_) (fun r M' hM' hr => hQ r M' (fun i hi => by rw [hM' i hi, hup2]) hr) 10 0 known M2 rfl (Nat.le_refl _) (fun _ _ => rfl) (Nat.le_refl _) (fun y' hy' => by omega) (Or.inl rfl)⟩) (fun c => ⟨2, l_ll106 (y0 := 9) (by omega) hs (by rw [hup2]; exact hM) (by rw [hup2]; exact hM0) ha hb hab hmo hkn (ih d' (k + 1) (by omega) (by omega)) (fun y hy0 hy9 => ?_) (fun r M' hM' hr => hQ r M' (fun i hi => by rw [hM' i hi, hup2]) hr) 1 9 known M2 rfl (Nat.le_refl _) (fun _ _ => rfl) (Nat.le_refl _) (fun y' hy' w => ?_) (Or.inl rfl)⟩)
      · rw [h9] at c
        rw [wy_can hs.1 hy9]
        unfold wb
        rw [hok]
        cases cm : may s.1 (ps k / 10) (ps k % 10)
        · rfl
        · rw [cm, Bool.true_and] at c
          rw [c]
          by_cases e : y = 9
          · rw [if_pos e, if_neg (show ¬ (false = true) by decide), e, brg_big hs.1 (by omega)]
          · rw [if_neg e, if_neg (show ¬ (false = true) by decide)]
      · rw [h9, Bool.and_eq_true] at c
        have : y = 9 := by omega
        subst this
        rw [h9]
        unfold wb
        rw [hok, c.1, c.2]
        rfl
      · exfalso
        rw [h9, Bool.and_eq_true] at c
        unfold wb at w
        rw [c.2, if_pos rfl, Bool.and_eq_true] at w
        have : y' = 9 := by simpa using w.2
        omega
    · have e11' : S11 = (E, va_up M k (M k)) := e11
      rw [e11']
      refine hQ known _ (fun i _ => hup i) ⟨Nat.le_refl _, ?_, Or.inl rfl⟩
      rintro v ⟨y, w1, w2⟩
      obtain ⟨⟨q1, q2, q3, q4⟩, _⟩ := wb_or hs.1 w1
      exact absurd ⟨_, _, q1, q2, q3, rfl, rfl⟩ hno
/-- the answer -/
def isL (ps : Nat → Nat) (R : Nat) (s0 : LSt) (v : Int32) : Prop := (∃ r, v = nI r ∧ Ld ps R 0 s0 r ∧ ∀ v', Ld ps R 0 s0 v' → r ≤ v') ∨ (v = -9 ∧ ∀ v', ¬ Ld ps R 0 s0 v')
def s0L (t : TV) : LSt := (t, fun _ => 0, 0)
theorem okL_0 {t : TV} (ht : okT t) (hl : tl t ≠ 1) : okL t (s0L t) := by
  refine ⟨ht, rfl, hl, fun y _ => ?_, fun _ => Nat.le_refl _⟩
  show tb t y = nI 0 + tb t y
  rw [show nI 0 = (0 : Int32) from rfl, Int32.zero_add]
theorem s_leastLoad {E F : St} {M : Nat → St} {t : TV} {ps : Nat → Nat} {R : Nat} {Q : Int32 → WS → St → Prop} (hR : E.1 0 = nI R) (hR6 : R ≤ 6) (hp : ∀ i, i < R → ps i < 100 ∧ E.2 1 i = nI (ps i)) (hF : absF F t) (ht : okT t) (hl : tl t ≠ 1) (hQ : ∀ v M', isL ps R (s0L t) v → Q v (E, M') F) : wp_X1_leastLoad (E, M) F Q := by
  unfold wp_X1_leastLoad
  refine s_copyFrom ht hF (fun u2 h2 S5 e5 => ?_)
  have e5' : S5 = (E, va_up M 0 u2) := e5
  rw [e5']
  show wp_X1_leastLoadFrom 8 (E, va_up M 0 u2) 0 0 (E.1 0 + 1) (fun r_7 u_8 => (E.1 0 + 1 ≤ r_7 → _) ∧ (¬ E.1 0 + 1 ≤ r_7 → _))
  rw [hR, nI_1 R]
  have hm : absF (va_up M 0 u2 0) t := by rw [up_s]; exact h2
  refine s_llf hR hR6 hp R 8 0 (by omega) (by omega) _ (s0L t) (R + 1) _ (okL_0 ht hl) hm hm (by show 0 < R + 1; omega) (by omega) (fun r M' _ hr => ?_)
  obtain ⟨r1, r2, r3⟩ := hr
  have hb : ∀ v, Ld ps R 0 (s0L t) v → v ≤ 0 + R := fun v hv => Ld_le (s := s0L t) (fun _ => Nat.le_refl _) hv
  by_cases c : R + 1 ≤ r
  · refine br_t (nI_le c (by omega)) (hQ _ _ (Or.inr ⟨rfl, fun v hv => ?_⟩))
    have := r2 v hv
    have := hb v hv
    omega
  · refine br_f (fun z => c ((nI_leI (by omega) (by omega)).mp z)) (hQ _ _ (Or.inl ⟨r, rfl, ?_, r2⟩))
    rcases r3 with q | q
    · omega
    · exact q
