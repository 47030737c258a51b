/-! 15 wanted: whether two may behind so many dances -/
def Dn (P : TV → Prop) (t : TV) (p q : Nat) : Prop := ∃ y, y ≤ 9 ∧ wy t p q y = true ∧ P (stepT t p q y)
def Rch (a b : Nat) : Nat → TV → Prop
  | 0, t => may t a b = true
  | n + 1, t => ∃ p q, p < q ∧ q < tn t ∧ Dn (Rch a b n) t p q
theorem Rch_0 (a b : Nat) (t : TV) : Rch a b 0 t = (may t a b = true) := rfl
theorem Rch_s (a b n : Nat) (t : TV) : Rch a b (n + 1) t = ∃ p q, p < q ∧ q < tn t ∧ Dn (Rch a b n) t p q := rfl
theorem stepT_n (t : TV) (a b y : Nat) : tn (stepT t a b y) = tn t := brT_n t a b y
theorem wy_te {t : TV} {p q y : Nat} (h : wy t p q y = true) : te t p q = false := by
  cases c : te t p q
  · rfl
  · unfold wy at h; rw [c] at h; simp at h
abbrev WS : Type := St × (Nat → St)
/-- what a deeper look does -/
def RS (R : WS → Int32 → Int32 → (Int32 → WS → Prop) → Prop) (E : St) (a b n lev k : Nat) : Prop :=
  ∀ (M : Nat → St) (t' : TV) (Q' : Int32 → WS → Prop), okT t' → tn t' = n → absF (M lev) t' → (Rch a b k t' → ∀ M', (∀ i, i ≤ lev → M' i = M i) → Q' 1 (E, M')) → (¬ Rch a b k t' → ∀ M', (∀ i, i ≤ lev → M' i = M i) → Q' 0 (E, M')) → R (E, M) (nI lev) (nI k) Q'
theorem l_rb44 {R : WS → Int32 → Int32 → (Int32 → WS → Prop) → Prop} {E : St} {t : TV} {a b k lev p q : Nat} {x1 : Int32} {M0 : Nat → St} {Q : Int32 → WS → Prop} (ht : okT t) (hl : lev + 1 < 3) (hp : p < q) (hq : q < tn t) (hM : absF (M0 lev) t) (hR : RS R E a b (tn t) (lev + 1) k)
    (h1 : Dn (Rch a b k) t p q → ∀ M', (∀ i, i ≤ lev → M' i = M0 i) → Q 1 (E, M'))
    (h0 : ¬ Dn (Rch a b k) t p q → ∀ M', (∀ i, i ≤ lev → M' i = M0 i) → Q 0 (E, M')) :
    ∀ (m y : Nat) (M : Nat → St), y + m = 10 → (∀ i, i ≤ lev → M i = M0 i) → (∀ j, j < y → ¬ (wy t p q j = true ∧ Rch a b k (stepT t p q j))) → wp_X5_isReachedBy_44 R x1 (nI lev) (nI (k + 1)) Q (m + 1) (E, M) (nI p) (nI q) (mkI (wy t p q) 10) (nI y)
  | 0, y, M, hy, hi, hn => by
    have : y = 10 := by omega
    subst this
    unfold wp_X5_isReachedBy_44
    exact br_t (by decide) (h0 (fun ⟨y, g1, g2, g3⟩ => hn y (by omega) ⟨g2, g3⟩) M hi)
  | m + 1, y, M, hy, hi, hn => by
    have hn8 := ht.1
    have ih := l_rb44 (x1 := x1) ht hl hp hq hM hR h1 h0 m (y + 1)
    have more : ∀ M : Nat → St, (∀ i, i ≤ lev → M i = M0 i) → ¬ (wy t p q y = true ∧ Rch a b k (stepT t p q y)) → wp_X5_isReachedBy_44 R x1 (nI lev) (nI (k + 1)) Q (m + 1) (E, M) (nI p) (nI q) (mkI (wy t p q) 10) (nI (y + 1)) := fun M hM' hno => ih M (by omega) hM' (fun j hj => by
      rcases Nat.lt_or_ge j y with c | c
      · exact hn j c
      · rw [show j = y by omega]; exact hno)
    unfold wp_X5_isReachedBy_44
    rw [nI_1 lev, nI_1 y, nI_pred k, nI_clamp (n := lev) (by omega), nI_clamp (n := lev + 1) (by omega)]
    refine br_f (fun c => by rw [show (9 : Int32) = nI 9 from rfl, nI_ltI (by omega) (by omega)] at c; omega) (s_hasBit (by omega) ?_)
    rw [b_mkI _ _ 10 (by omega), show decide (y < 10) = true by simp; omega, Bool.true_and]
    refine bb (fun c => more M hi (fun z => by rw [c] at z; cases z.1)) (fun c => ⟨by omega, s_copyFrom (t := t) ht (by show absF (M lev) t; rw [hi lev (Nat.le_refl _)]; exact hM) (fun u13 h13 S17 e17 => ?_)⟩)
    have e17' : S17 = (E, va_up (va_up M (lev + 1) u13) lev (M lev)) := e17
    rw [e17']
    refine s_step (t := t) (by show absF (va_up (va_up M (lev + 1) u13) lev (M lev) (lev + 1)) t; rw [up_n _ _ (by omega), up_s]; exact h13) ht (by omega) hq (by omega) (by omega) (fun u20 h20 S21 e21 => ?_)
    have e21' : S21 = (E, va_up (va_up (va_up M (lev + 1) u13) lev (M lev)) (lev + 1) u20) := e21
    rw [e21']
    have hlow : ∀ i, i ≤ lev → va_up (va_up (va_up M (lev + 1) u13) lev (M lev)) (lev + 1) u20 i = M0 i := fun i hi' => by
      rw [up_n _ _ (by omega)]
      by_cases w : i = lev
      · rw [w, up_s, hi lev (Nat.le_refl _)]
      · rw [up_n _ _ w, up_n _ _ (by omega), hi i hi']
    refine hR _ (stepT t p q y) _ (okT_step ht (by omega) hq (by omega)) (stepT_n t p q y) (by rw [up_s]; exact h20) (fun hr M' hM' => br_f (by decide) (h1 ⟨y, by omega, c, hr⟩ M' (fun i hi' => by rw [hM' i (by omega), hlow i hi']))) (fun hr M' hM' => br_t rfl (more M' (fun i hi' => by rw [hM' i (by omega), hlow i hi']) (fun z => hr z.2)))
theorem s_rb {R : WS → Int32 → Int32 → (Int32 → WS → Prop) → Prop} {E : St} {t : TV} {a b k lev p : Nat} {M0 : Nat → St} {Q : Int32 → WS → Prop} (ht : okT t) (hl : lev + 1 < 3) (hp : p < 100) (hP : p / 10 < p % 10) (hP2 : p % 10 < tn t) (hM : absF (M0 lev) t) (hR : RS R E a b (tn t) (lev + 1) k)
    (h1 : Dn (Rch a b k) t (p / 10) (p % 10) → ∀ M', (∀ i, i ≤ lev → M' i = M0 i) → Q 1 (E, M'))
    (h0 : ¬ Dn (Rch a b k) t (p / 10) (p % 10) → ∀ M', (∀ i, i ≤ lev → M' i = M0 i) → Q 0 (E, M')) : wp_X5_isReachedBy R (E, M0) (nI p) (nI lev) (nI (k + 1)) Q := by
  unfold wp_X5_isReachedBy wp_X6_lesserOf wp_X6_greaterOf
  rw [rem10 hp, div10 hp, nI_1 lev, nI_clamp (n := lev) (by omega)]
  refine ⟨vp_in_nI (by omega) (by omega), vp_in_nI (by omega) (by omega), s_waysToDance (t := t) hM ht (by omega) hP2 (fun S7 e7 => ?_)⟩
  have e7' : S7 = (E, va_up M0 lev (M0 lev)) := e7
  rw [e7']
  exact ⟨11, l_rb44 (x1 := nI p) ht hl hP hP2 hM hR h1 h0 10 0 _ rfl (fun i hi => by
    by_cases w : i = lev
    · rw [w, up_s]
    · rw [up_n _ _ w]) (fun j hj => by omega)⟩
theorem l_ir34 {R : WS → Int32 → Int32 → (Int32 → WS → Prop) → Prop} {E : St} {t : TV} {a b k lev : Nat} {M0 : Nat → St} {Q : Int32 → WS → Prop} (ht : okT t) (hl : lev + 1 < 3) (hM : absF (M0 lev) t) (hR : RS R E a b (tn t) (lev + 1) k)
    (h1 : Rch a b (k + 1) t → ∀ M', (∀ i, i ≤ lev → M' i = M0 i) → Q 1 (E, M'))
    (h0 : ¬ Rch a b (k + 1) t → ∀ M', (∀ i, i ≤ lev → M' i = M0 i) → Q 0 (E, M')) :
    ∀ (m p : Nat) (M : Nat → St), p + m = 68 → (∀ i, i ≤ lev → M i = M0 i) → (∀ j, j < p → j / 10 < j % 10 → j % 10 < tn t → ¬ Dn (Rch a b k) t (j / 10) (j % 10)) → wp_X5_isReached_34 R (nI lev) (nI (k + 1)) Q (m + 1) (E, M) (nI p)
  | 0, p, M, hp, hi, hn => by
    have hn8 := ht.1
    have : p = 68 := by omega
    subst this
    unfold wp_X5_isReached_34
    refine br_t (by decide) (h0 ?_ M hi)
    rintro ⟨p, q, g1, g2, g3⟩
    have e1 : (10 * p + q) / 10 = p := by omega
    have e2 : (10 * p + q) % 10 = q := by omega
    have := hn (10 * p + q) (by omega)
    rw [e1, e2] at this
    exact this g1 g2 g3
  | m + 1, p, M, hp, hi, hn => by
    have hn8 := ht.1
    have ih := l_ir34 ht hl hM hR h1 h0 m (p + 1)
    have more : ∀ M : Nat → St, (∀ i, i ≤ lev → M i = M0 i) → (p / 10 < p % 10 → p % 10 < tn t → ¬ Dn (Rch a b k) t (p / 10) (p % 10)) → wp_X5_isReached_34 R (nI lev) (nI (k + 1)) Q (m + 1) (E, M) (nI (p + 1)) := fun M hM' hno => ih M (by omega) hM' (fun j hj => by
      rcases Nat.lt_or_ge j p with c | c
      · exact hn j c
      · rw [show j = p by omega]; exact hno)
    unfold wp_X5_isReached_34
    rw [nI_1 p, nI_clamp (n := lev) (by omega)]
    refine br_f (fun c => by rw [show (67 : Int32) = nI 67 from rfl, nI_ltI (by omega) (by omega)] at c; omega) (s_isOpen (t := t) (by show absF (M lev) t; rw [hi lev (Nat.le_refl _)]; exact hM) ht (by omega) (fun S11 e11 => ?_))
    have e11' : S11 = (E, va_up M lev (M lev)) := e11
    have hlow : ∀ i, i ≤ lev → va_up M lev (M lev) i = M0 i := fun i hi' => by
      by_cases w : i = lev
      · rw [w, up_s, hi lev (Nat.le_refl _)]
      · rw [up_n _ _ w, hi i hi']
    rw [e11']
    refine bb (fun c => more _ hlow (fun g1 g2 => ?_)) (fun c => ?_)
    · rintro ⟨y, z1, z2, z3⟩
      unfold gP at c
      rw [isP_iff.mpr ⟨g1, g2⟩] at c
      have c' : (true && !te t (p / 10) (p % 10)) = false := c
      rw [wy_te z2] at c'
      cases c'
    · unfold gP at c
      rw [Bool.and_eq_true] at c
      have c1 := isP_iff.mp c.1
      exact s_rb ht hl (by omega) c1.1 c1.2 (by rw [hlow lev (Nat.le_refl _)]; exact hM) hR (fun hd M' hM' => br_f (by decide) (h1 ⟨_, _, c1.1, c1.2, hd⟩ M' (fun i hi' => by rw [hM' i hi', hlow i hi']))) (fun hd M' hM' => br_t rfl (more M' (fun i hi' => by rw [hM' i hi', hlow i hi']) (fun _ _ => hd)))
theorem s_isReached {E : St} {a b n : Nat} (ha : a < n) (hb : b < n) (e1 : E.1 1 = nI a) (e2 : E.1 2 = nI b) : ∀ (k d lev : Nat), k + 1 ≤ d → lev + k ≤ 2 → RS (wp_X5_isReached d) E a b n lev k := by
  intro k
  induction k with
  | zero =>
    intro d lev hd hl M t Q ht hn hM h1 h0
    obtain ⟨d', rfl⟩ : ∃ d', d = d' + 1 := ⟨d - 1, by omega⟩
    unfold wp_X5_isReached wp_X5_isReached_b
    refine ⟨vp_in_nI (by omega) (by omega), br_t (by decide) ?_⟩
    unfold wp_X5_isReached_18
    rw [nI_clamp (n := lev) (by omega)]
    show wp_X2_isAllowed (M lev) (E.1 1) (E.1 2) _
    rw [e1, e2]
    refine s_isAllowed hM ht (by omega) (by omega) (fun S5 e5 => ⟨b2i_bz _, ?_⟩)
    have e5' : S5 = (E, va_up M lev (M lev)) := e5
    have hlow : ∀ i, i ≤ lev → va_up M lev (M lev) i = M i := fun i hi' => by
      by_cases w : i = lev
      · rw [w, up_s]
      · rw [up_n _ _ w]
    rw [e5']
    cases c : may t a b
    · exact h0 (fun z => by rw [Rch_0, c] at z; cases z) _ hlow
    · exact h1 c _ hlow
  | succ k ih =>
    intro d lev hd hl M t Q ht hn hM h1 h0
    obtain ⟨d', rfl⟩ : ∃ d', d = d' + 1 := ⟨d - 1, by omega⟩
    unfold wp_X5_isReached wp_X5_isReached_b
    rw [nI_1 lev]
    refine ⟨vp_in_nI (by omega) (by omega), br_f (nI_nle (by omega) (by omega)) (br_t (by rw [show (3 : Int32) = nI 3 from rfl, nI_ltI (by omega) (by omega)]; omega) ⟨68, l_ir34 ht (by omega) hM ?_ h1 h0 67 1 M rfl (fun _ _ => rfl) (fun j hj g1 => by omega)⟩)⟩
    rw [hn]
    exact ih d' (lev + 1) (by omega) (by omega)
/-- the answer -/
def isV (t : TV) (a b : Nat) (v : Int32) : Prop := (v = 1 ∧ Rch a b 0 t) ∨ (v = 2 ∧ ¬ Rch a b 0 t ∧ Rch a b 1 t) ∨ (v = 3 ∧ ¬ Rch a b 0 t ∧ ¬ Rch a b 1 t ∧ Rch a b 2 t) ∨ (v = -9 ∧ ¬ Rch a b 0 t ∧ ¬ Rch a b 1 t ∧ ¬ Rch a b 2 t)
theorem s_ld {E F : St} {t : TV} {a b : Nat} {x2 x3 : Int32} {M : Nat → St} {Q : Int32 → WS → St → Prop} (ht : okT t) (ha : a < tn t) (hb : b < tn t) (e1 : E.1 1 = nI a) (e2 : E.1 2 = nI b) (hM : absF (M 0) t) (hQ : ∀ v M', isV t a b v → Q v (E, M') F) : wp_X5_leastDances_34 x2 x3 Q 4 (E, M) F 0 := by
  have hs := fun k hk => s_isReached ha hb e1 e2 k 4 0 (by omega) hk
  unfold wp_X5_leastDances_34
  refine br_f (by decide) (hs 0 (by omega) M t _ ht rfl hM (fun r M1 h1 => br_f (by decide) (hQ _ _ (Or.inl ⟨rfl, r⟩))) (fun r0 M1 h1 => br_t rfl ?_))
  unfold wp_X5_leastDances_34
  have hM1 : absF (M1 0) t := by rw [h1 0 (Nat.le_refl _)]; exact hM
  refine br_f (by decide) (hs 1 (by omega) M1 t _ ht rfl hM1 (fun r M2 h2 => br_f (by decide) (hQ _ _ (Or.inr (Or.inl ⟨rfl, r0, r⟩)))) (fun r1 M2 h2 => br_t rfl ?_))
  unfold wp_X5_leastDances_34
  have hM2 : absF (M2 0) t := by rw [h2 0 (Nat.le_refl _)]; exact hM1
  refine br_f (by decide) (hs 2 (by omega) M2 t _ ht rfl hM2 (fun r M3 h3 => br_f (by decide) (hQ _ _ (Or.inr (Or.inr (Or.inl ⟨rfl, r0, r1, r⟩))))) (fun r2 M3 h3 => br_t rfl ?_))
  unfold wp_X5_leastDances_34
  exact br_t (by decide) (hQ _ _ (Or.inr (Or.inr (Or.inr ⟨rfl, r0, r1, r2⟩))))
/-! the reference -/
theorem div8 {k : Nat} (hk : k < 100) : nI k / (8 : Int32) = nI (k / 8) := pk_div (d := 8) (by omega) (by omega) (by omega)
theorem rem8 {k : Nat} (hk : k < 100) : nI k - nI k / (8 : Int32) * (8 : Int32) = nI (k % 8) := pk_rem (d := 8) (by omega) (by omega) (by omega)
def kp (Y S : St) : Prop := frm [5, 6, 17, 18] [1, 2, 3, 4, 15] Y S ∧ ∀ q, q < 120 → S.2 15 q = Y.2 15 q
theorem kp.rf {Y : St} : kp Y Y := ⟨frm.rf, fun _ _ => rfl⟩
theorem kp.tr {Y S T : St} (h : kp Y S) (h' : kp S T) : kp Y T := ⟨h.1.tr h'.1, fun q hq => (h'.2 q hq).trans (h.2 q hq)⟩
theorem kp.of {Y S : St} (h : frm [5, 6, 17, 18] [1, 2, 3, 4] Y S) : kp Y S :=
  ⟨h.mono (fun s z => z) (fun s z => by simp at z ⊢; omega), fun q _ => by rw [h.2 15 (by decide)]⟩
theorem kp.ofd {Y S : St} (h : frm [] [3, 4] Y S) : kp Y S := kp.of (h.mono (fun s z => absurd z List.not_mem_nil) (fun s z => by simp at z ⊢; omega))
theorem absKw {Y Y' : St} {t : TV} {w : Nat} (ht : tn t ≤ 8) (h : absF (flK Y w) t) (hq : ∀ q, 40 * w ≤ q → q < 40 * w + 34 → Y'.2 15 q = Y.2 15 q) : absF (flK Y' w) t :=
  absF.eq8 ht h (hq _ (by omega) (by omega)) (hq _ (by omega) (by omega)) (fun i hi => hq _ (by omega) (by omega)) (fun i hi => hq _ (by omega) (by omega)) (fun i hi => hq _ (by omega) (by omega)) (fun i hi => hq _ (by omega) (by omega))
theorem wy_of {t : TV} (ht : okT t) {p q y : Nat} (hy : y ≤ 9) (hm : may t p q = true) : wy t p q y = (if y = 9 then csn t p q else brg t y p q) := by
  rw [wy_can ht hy, hm, Bool.true_and]
theorem wy_or {t : TV} (ht : okT t) {p q y : Nat} (hy : y ≤ 9) (h : wy t p q y = true) : y < tn t ∨ y = 9 := by
  rw [wy_can ht hy, Bool.and_eq_true] at h
  by_cases c : y = 9
  · exact Or.inr c
  · have := h.2
    rw [if_neg c] at this
    exact Or.inl (brg_lt ht this)
theorem wy_m {t : TV} (ht : okT t) {p q y : Nat} (hy : y ≤ 9) (h : wy t p q y = true) : may t p q = true := by
  rw [wy_can ht hy, Bool.and_eq_true] at h
  exact h.1
theorem l7_mb59 {Y0 : St} {t : TV} {a b k p q : Nat} {K : St → Int32 → Prop} {Q : Int32 → St → Prop} (ht : okT t) (ha : a < tn t) (hb : b < tn t) (hp : p < q) (hq : q < tn t) (hm : may t p q = true) (hk : absF (flK Y0 3) t)
    (hK : ∀ S, absF (flM S) t → frm [5, 6, 17, 18] [1, 2, 3, 4] Y0 S → ¬ Dn (Rch a b 0) t p q → K S (nI (k + 1)))
    (h1 : Dn (Rch a b 0) t p q → ∀ S, absF (flM S) t → frm [5, 6, 17, 18] [1, 2, 3, 4] Y0 S → Q 1 S) :
    ∀ (m y : Nat) (S : St), y + m = 10 → absF (flM S) t → frm [5, 6, 17, 18] [1, 2, 3, 4] Y0 S → (∀ j, j < y → ¬ (wy t p q j = true ∧ Rch a b 0 (stepT t p q j))) → wp_X7_mayBehindOne2_59 K (nI a) (nI b) Q (m + 1) S (nI k) (nI p) (nI q) (nI y)
  | 0, y, S, hy, hF, hS, hn => by
    have : y = 10 := by omega
    subst this
    unfold wp_X7_mayBehindOne2_59
    rw [nI_1 k]
    exact br_t (by decide) (hK S hF hS (fun ⟨y, g1, g2, g3⟩ => hn y (by omega) ⟨g2, g3⟩))
  | m + 1, y, S, hy, hF, hS, hn => by
    have hn8 := ht.1
    have ih := l7_mb59 ht ha hb hp hq hm hk hK h1 m (y + 1)
    have more : ∀ S, absF (flM S) t → frm [5, 6, 17, 18] [1, 2, 3, 4] Y0 S → ¬ (wy t p q y = true ∧ Rch a b 0 (stepT t p q y)) → wp_X7_mayBehindOne2_59 K (nI a) (nI b) Q (m + 1) S (nI k) (nI p) (nI q) (nI (y + 1)) := fun S g1 g2 hno => ih S (by omega) g1 g2 (fun j hj => by
      rcases Nat.lt_or_ge j y with c | c
      · exact hn j c
      · rw [show j = y by omega]; exact hno)
    unfold wp_X7_mayBehindOne2_59
    rw [nI_1 y]
    refine br_f (fun c => by rw [show (9 : Int32) = nI 9 from rfl, nI_ltI (by omega) (by omega)] at c; omega) (s7_canBy hF ht (by omega) hq (fun y2 hy2 ey2 => ?_) (fun z => absurd rfl (z y (by omega))))
    have : y = y2 := (nI_inj8 (by omega) (by omega)).mp ey2
    subst this
    rw [← wy_of ht hy2 hm]
    refine bb' (fun c => s7_dances hF ht (by omega) hq (by omega) (wy_or ht hy2 c) (fun Y1 g1 g2 => s7_mayDance g1 (okT_step ht (by omega) hq (by omega)) (by rw [stepT_n]; exact ha) (by rw [stepT_n]; exact hb) (s_passesAllR (w := 3) (by omega) (fun Y2 f2 h2 => ?_)))) (fun c => more S hF hS (fun z => by rw [c] at z; cases z.1))
    have f1 : frm [5, 6, 17, 18] [1, 2, 3, 4] Y0 Y1 := hS.tr (g2.mono (fun s z => absurd z List.not_mem_nil) (fun s z => by simp at z ⊢; omega))
    have hF2 : absF (flM Y2) t := h2 t ht.1 (by rw [flK_frm (f1.2 15 (by decide))]; exact hk)
    exact bb (fun d => more Y2 hF2 (f1.tr f2) (fun z => by rw [Rch_0, d] at z; cases z.2)) (fun d => h1 ⟨y, hy2, c, d⟩ Y2 hF2 (f1.tr f2))
theorem l7_mb8 {Y0 : St} {t : TV} {a b : Nat} {Q : Int32 → St → Prop} (ht : okT t) (ha : a < tn t) (hb : b < tn t) (hk : absF (flK Y0 3) t)
    (h1 : Rch a b 1 t → ∀ S, absF (flM S) t → frm [5, 6, 17, 18] [1, 2, 3, 4] Y0 S → Q 1 S)
    (h0 : ¬ Rch a b 1 t → ∀ S, absF (flM S) t → frm [5, 6, 17, 18] [1, 2, 3, 4] Y0 S → Q 0 S) :
    ∀ (m k : Nat) (S : St), k + m = 64 → absF (flM S) t → frm [5, 6, 17, 18] [1, 2, 3, 4] Y0 S → (∀ j, j < k → j / 8 < j % 8 → j % 8 < tn t → ¬ Dn (Rch a b 0) t (j / 8) (j % 8)) → wp_X7_mayBehindOne2_8 (nI a) (nI b) Q (m + 1) S (nI k)
  | 0, k, S, hk', hF, hS, hn => by
    have hn8 := ht.1
    have : k = 64 := by omega
    subst this
    unfold wp_X7_mayBehindOne2_8
    refine br_t (by decide) (h0 ?_ S hF hS)
    rintro ⟨p, q, g1, g2, g3⟩
    have e1 : (8 * p + q) / 8 = p := by omega
    have e2 : (8 * p + q) % 8 = q := by omega
    have := hn (8 * p + q) (by omega)
    rw [e1, e2] at this
    exact this g1 g2 g3
  | m + 1, k, S, hk', hF, hS, hn => by
    have hn8 := ht.1
    have ih := l7_mb8 ht ha hb hk h1 h0 m (k + 1)
    have more : ∀ S, absF (flM S) t → frm [5, 6, 17, 18] [1, 2, 3, 4] Y0 S → (k / 8 < k % 8 → k % 8 < tn t → ¬ Dn (Rch a b 0) t (k / 8) (k % 8)) → wp_X7_mayBehindOne2_8 (nI a) (nI b) Q (m + 1) S (nI (k + 1)) := fun S g1 g2 hno => ih S (by omega) g1 g2 (fun j hj => by
      rcases Nat.lt_or_ge j k with c | c
      · exact hn j c
      · rw [show j = k by omega]; exact hno)
    unfold wp_X7_mayBehindOne2_8
    rw [rem8 (k := k) (by omega), div8 (k := k) (by omega), nI_1 k, show S.1 5 = nI (tn t) from hF.1]
    refine br_f (fun c => by rw [show (64 : Int32) = nI 64 from rfl, nI_leI (by omega) (by omega)] at c; omega) ?_
    by_cases c1 : k % 8 ≤ k / 8
    · exact br_t (nI_le c1 (by omega)) (more S hF hS (fun z => by omega))
    · refine br_f (fun z => c1 ((nI_leI (by omega) (by omega)).mp z)) ?_
      by_cases c2 : tn t ≤ k % 8
      · exact br_t (nI_le c2 (by omega)) (more S hF hS (fun _ z => by omega))
      · refine br_f (fun z => c2 ((nI_leI (by omega) (by omega)).mp z)) (s7_mayDance hF ht (by omega) (by omega) (bb' (fun c => ⟨11, l7_mb59 ht ha hb (by omega) (by omega) c hk (fun S g1 g2 g3 => more S g1 g2 (fun _ _ => g3)) (fun hd S g1 g2 => h1 ⟨_, _, by omega, by omega, hd⟩ S g1 g2) 10 0 S rfl hF hS (fun j hj => by omega)⟩) (fun c => more S hF hS (fun _ _ => ?_))))
        rintro ⟨y, z1, z2, z3⟩
        rw [wy_m ht z1 z2] at c; cases c
theorem s7_mb2 {Y : St} {t : TV} {a b : Nat} {Q : Int32 → St → Prop} (hF : absF (flM Y) t) (ht : okT t) (ha : a < tn t) (hb : b < tn t)
    (h1 : Rch a b 1 t → ∀ S, absF (flM S) t → kp Y S → Q 1 S)
    (h0 : ¬ Rch a b 1 t → ∀ S, absF (flM S) t → kp Y S → Q 0 S) : wp_X7_mayBehindOne2 Y (nI a) (nI b) Q := by
  unfold wp_X7_mayBehindOne2
  refine s_passesAllK (w := 3) (by omega) (fun Y1 f1 hk hq => ?_)
  have hF1 : absF (flM Y1) t := flM_frm f1 (by decide) (by decide) hF
  have k1 : kp Y Y1 := ⟨f1.mono (fun s z => by simp at z ⊢; omega) (fun s z => by simp at z ⊢; omega), fun q h => hq q (by omega)⟩
  exact ⟨65, l7_mb8 ht ha hb (hk t ht.1 hF) (fun r S g1 g2 => h1 r S g1 (k1.tr (kp.of g2))) (fun r S g1 g2 => h0 r S g1 (k1.tr (kp.of g2))) 64 0 Y1 rfl hF1 frm.rf (fun j hj => by omega)⟩
def BS (x4 : Int32) (a b n k : Nat) : Prop := ∀ (S : St) (t' : TV) (Q' : Int32 → St → Prop), okT t' → tn t' = n → absF (flM S) t' → (Rch a b k t' → ∀ S', absF (flM S') t' → kp S S' → Q' 1 S') → (¬ Rch a b k t' → ∀ S', absF (flM S') t' → kp S S' → Q' 0 S') → ((x4 = 0) → wp_X7_mayDance S (nI a) (nI b) Q') ∧ ((¬ x4 = 0) → wp_X7_mayBehindOne2 S (nI a) (nI b) Q')
theorem BS_0 {a b n : Nat} (ha : a < n) (hb : b < n) : BS 0 a b n 0 := fun S t Q ht hn hF h1 h0 => br_t rfl (s7_mayDance hF ht (by omega) (by omega) (by
  cases c : may t a b
  · exact h0 (fun z => by rw [Rch_0, c] at z; cases z) S hF kp.rf
  · exact h1 c S hF kp.rf))
theorem BS_1 {a b n : Nat} (ha : a < n) (hb : b < n) : BS 1 a b n 1 := fun S t Q ht hn hF h1 h0 => br_f (by decide) (s7_mb2 hF ht (by omega) (by omega) h1 h0)
theorem l7_mb63 {Y0 : St} {t : TV} {a b k n p q : Nat} {x4 : Int32} {K : St → Int32 → Prop} {Q : Int32 → St → Prop} (ht : okT t) (hB : BS x4 a b (tn t) n) (hp : p < q) (hq : q < tn t) (hm : may t p q = true) (hk : absF (flK Y0 2) t)
    (hK : ∀ S, absF (flM S) t → kp Y0 S → ¬ Dn (Rch a b n) t p q → K S (nI (k + 1)))
    (h1 : Dn (Rch a b n) t p q → ∀ S, absF (flM S) t → kp Y0 S → Q 1 S) :
    ∀ (m y : Nat) (S : St), y + m = 10 → absF (flM S) t → kp Y0 S → (∀ j, j < y → ¬ (wy t p q j = true ∧ Rch a b n (stepT t p q j))) → wp_X7_mayBehindOne_63 K (nI a) (nI b) 2 x4 Q (m + 1) S (nI k) (nI p) (nI q) (nI y)
  | 0, y, S, hy, hF, hS, hn => by
    have : y = 10 := by omega
    subst this
    unfold wp_X7_mayBehindOne_63
    rw [nI_1 k]
    exact br_t (by decide) (hK S hF hS (fun ⟨y, g1, g2, g3⟩ => hn y (by omega) ⟨g2, g3⟩))
  | m + 1, y, S, hy, hF, hS, hn => by
    have hn8 := ht.1
    have ih := l7_mb63 ht hB hp hq hm hk hK h1 m (y + 1)
    have more : ∀ S, absF (flM S) t → kp Y0 S → ¬ (wy t p q y = true ∧ Rch a b n (stepT t p q y)) → wp_X7_mayBehindOne_63 K (nI a) (nI b) 2 x4 Q (m + 1) S (nI k) (nI p) (nI q) (nI (y + 1)) := fun S g1 g2 hno => ih S (by omega) g1 g2 (fun j hj => by
      rcases Nat.lt_or_ge j y with c | c
      · exact hn j c
      · rw [show j = y by omega]; exact hno)
    unfold wp_X7_mayBehindOne_63
    rw [nI_1 y]
    refine br_f (fun c => by rw [show (9 : Int32) = nI 9 from rfl, nI_ltI (by omega) (by omega)] at c; omega) (s7_canBy hF ht (by omega) hq (fun y2 hy2 ey2 => ?_) (fun z => absurd rfl (z y (by omega))))
    have : y = y2 := (nI_inj8 (by omega) (by omega)).mp ey2
    subst this
    rw [← wy_of ht hy2 hm]
    refine bb' (fun c => s7_dances hF ht (by omega) hq (by omega) (wy_or ht hy2 c) (fun Y1 g1 g2 => ?_)) (fun c => more S hF hS (fun z => by rw [c] at z; cases z.1))
    have k1 : kp Y0 Y1 := hS.tr (kp.ofd g2)
    have fin : ∀ (S' : St) (r : Bool), kp Y1 S' → (r = true → Rch a b n (stepT t p q y)) → (r = false → ¬ Rch a b n (stepT t p q y)) → wp_X7_mayBehindOne_116 (fun s0 v0 v1 v2 v3 => wp_X7_mayBehindOne_63 K (nI a) (nI b) 2 x4 Q (m + 1) s0 v0 v1 v2 v3) K (nI a) (nI b) 2 x4 Q S' (nI k) (nI p) (nI q) (nI y) (b2i r) := by
      intro S' r k2 r1 r0
      unfold wp_X7_mayBehindOne_116
      rw [nI_1 y]
      refine s_passesAllR (w := 2) (by omega) (fun Y2 f2 h2 => ?_)
      have k3 : kp Y0 S' := k1.tr k2
      have hF2 : absF (flM Y2) t := h2 t ht.1 (absKw ht.1 hk (fun q' _ hq' => k3.2 q' (by omega)))
      have k4 : kp Y0 Y2 := k3.tr (kp.of f2)
      exact bb (fun d => more Y2 hF2 k4 (fun z => r0 d z.2)) (fun d => h1 ⟨y, hy2, c, r1 d⟩ Y2 hF2 k4)
    exact hB Y1 (stepT t p q y) _ (okT_step ht (by omega) hq (by omega)) (stepT_n t p q y) g1 (fun r S' _ k2 => fin S' true k2 (fun _ => r) (fun e => by cases e)) (fun r S' _ k2 => fin S' false k2 (fun e => by cases e) (fun _ => r))
theorem l7_mb9 {Y0 : St} {t : TV} {a b n : Nat} {x4 : Int32} {Q : Int32 → St → Prop} (ht : okT t) (hB : BS x4 a b (tn t) n) (hk : absF (flK Y0 2) t)
    (h1 : Rch a b (n + 1) t → ∀ S, absF (flM S) t → kp Y0 S → Q 1 S)
    (h0 : ¬ Rch a b (n + 1) t → ∀ S, absF (flM S) t → kp Y0 S → Q 0 S) :
    ∀ (m k : Nat) (S : St), k + m = 64 → absF (flM S) t → kp Y0 S → (∀ j, j < k → j / 8 < j % 8 → j % 8 < tn t → ¬ Dn (Rch a b n) t (j / 8) (j % 8)) → wp_X7_mayBehindOne_9 (nI a) (nI b) 2 x4 Q (m + 1) S (nI k)
  | 0, k, S, hk', hF, hS, hn => by
    have hn8 := ht.1
    have : k = 64 := by omega
    subst this
    unfold wp_X7_mayBehindOne_9
    refine br_t (by decide) (h0 ?_ S hF hS)
    rintro ⟨p, q, g1, g2, g3⟩
    have e1 : (8 * p + q) / 8 = p := by omega
    have e2 : (8 * p + q) % 8 = q := by omega
    have := hn (8 * p + q) (by omega)
    rw [e1, e2] at this
    exact this g1 g2 g3
  | m + 1, k, S, hk', hF, hS, hn => by
    have hn8 := ht.1
    have ih := l7_mb9 ht hB hk h1 h0 m (k + 1)
    have more : ∀ S, absF (flM S) t → kp Y0 S → (k / 8 < k % 8 → k % 8 < tn t → ¬ Dn (Rch a b n) t (k / 8) (k % 8)) → wp_X7_mayBehindOne_9 (nI a) (nI b) 2 x4 Q (m + 1) S (nI (k + 1)) := fun S g1 g2 hno => ih S (by omega) g1 g2 (fun j hj => by
      rcases Nat.lt_or_ge j k with c | c
      · exact hn j c
      · rw [show j = k by omega]; exact hno)
    unfold wp_X7_mayBehindOne_9
    rw [rem8 (k := k) (by omega), div8 (k := k) (by omega), nI_1 k, show S.1 5 = nI (tn t) from hF.1]
    refine br_f (fun c => by rw [show (64 : Int32) = nI 64 from rfl, nI_leI (by omega) (by omega)] at c; omega) ?_
    by_cases c1 : k % 8 ≤ k / 8
    · exact br_t (nI_le c1 (by omega)) (more S hF hS (fun z => by omega))
    · refine br_f (fun z => c1 ((nI_leI (by omega) (by omega)).mp z)) ?_
      by_cases c2 : tn t ≤ k % 8
      · exact br_t (nI_le c2 (by omega)) (more S hF hS (fun _ z => by omega))
      · refine br_f (fun z => c2 ((nI_leI (by omega) (by omega)).mp z)) (s7_mayDance hF ht (by omega) (by omega) (bb' (fun c => ⟨11, l7_mb63 ht hB (by omega) (by omega) c hk (fun S g1 g2 g3 => more S g1 g2 (fun _ _ => g3)) (fun hd S g1 g2 => h1 ⟨_, _, by omega, by omega, hd⟩ S g1 g2) 10 0 S rfl hF hS (fun j hj => by omega)⟩) (fun c => more S hF hS (fun _ _ => ?_))))
        rintro ⟨y, z1, z2, z3⟩
        rw [wy_m ht z1 z2] at c; cases c
def kq (Y S : St) : Prop := frm [5, 6, 17, 18] [1, 2, 3, 4, 15] Y S ∧ ∀ q, q < 80 → S.2 15 q = Y.2 15 q
theorem s7_mb {Y : St} {t : TV} {a b n : Nat} {x4 : Int32} {Q : Int32 → St → Prop} (hF : absF (flM Y) t) (ht : okT t) (hB : BS x4 a b (tn t) n)
    (h1 : Rch a b (n + 1) t → ∀ S, absF (flM S) t → kq Y S → Q 1 S)
    (h0 : ¬ Rch a b (n + 1) t → ∀ S, absF (flM S) t → kq Y S → Q 0 S) : wp_X7_mayBehindOne Y (nI a) (nI b) 2 x4 Q := by
  unfold wp_X7_mayBehindOne
  refine s_passesAllK (w := 2) (by omega) (fun Y1 f1 hk hq => ?_)
  have hF1 : absF (flM Y1) t := flM_frm f1 (by decide) (by decide) hF
  have k1 : ∀ S, kp Y1 S → kq Y S := fun S h => ⟨(f1.mono (fun s z => by simp at z ⊢; omega) (fun s z => by simp at z ⊢; omega)).tr h.1, fun q h' => (h.2 q (by omega)).trans (hq q (by omega))⟩
  exact ⟨65, l7_mb9 ht hB (hk t ht.1 hF) (fun r S g1 g2 => h1 r S g1 (k1 S g2)) (fun r S g1 g2 => h0 r S g1 (k1 S g2)) 64 0 Y1 rfl hF1 kp.rf (fun j hj => by omega)⟩
theorem ls_wanted : LS_15 Inv := by
  rintro X Y x1 x2 ⟨G, hG, hX, hY⟩
  have ht := hG.1
  have hn := ht.1
  have hM := hY.1
  unfold wp_X6_wanted
  refine s_areTwo hX.1 ht (fun a b ha hb hab ea eb S3 e3 => bn_t (by decide) ?_) (fun hno S3 e3 => bn_f rfl ?_)
  · obtain rfl : S3 = X := e3
    subst ea; subst eb
    unfold wp_X5_leastDances
    refine s_haveDanced hX.1 ht ha (by omega) (bb (fun c S4 e4 S6 e6 => s_copyFrom ht hX.1 (fun u9 h9 S12 e12 => ⟨4, ?_⟩)) (fun c S10 e10 => ?_))
    · have hE1 : S6.1.1 1 = nI a := by rw [e6, e4]; rfl
      have hE2 : S6.1.1 2 = nI b := by rw [e6]; rfl
      rw [e12]
      refine s_ld (t := gt G) ht ha hb hE1 hE2 (by rw [up_s]; exact h9) (fun v M' hv S10 e10 => ?_)
      have hX' : absX S10 G := by rw [e10]; exact hX
      refine s7_areTwoN hM ht ha hb hab (bn_t (by decide) (s7_haveDanced hM ht ha (by omega) (bb (fun _ => ?_) (fun d => by rw [c] at d; cases d))))
      have fin : ∀ S, absF (flM S) (gt G) → kq Y S → absY S G := fun S g1 g2 => absY.of (t := gt G) hG hY g1 g2.1 (by decide) (by decide) (fun q hq => g2.2 q (by omega))
      refine s7_mayDance hM ht ha hb (bb (fun c0 => ?_) (fun c0 => ?_))
      · have r0 : ¬ Rch a b 0 (gt G) := fun z => by rw [Rch_0, c0] at z; cases z
        refine s7_mb hM ht (BS_0 ha hb) (fun r1 S g1 g2 => br_f (by decide) ⟨?_, G, hG, hX', fin S g1 g2⟩) (fun r1 S g1 g2 => br_t rfl (s7_mb g1 ht (BS_1 ha hb) (fun r2 S2 k1 k2 => br_f (by decide) ⟨?_, G, hG, hX', fin S2 k1 ?_⟩) (fun r2 S2 k1 k2 => br_t rfl ⟨?_, G, hG, hX', fin S2 k1 ?_⟩)))
        · rcases hv with ⟨_, z⟩ | ⟨e, _⟩ | ⟨_, _, z, _⟩ | ⟨_, _, z, _⟩
          · exact absurd z r0
          · exact e
          · exact absurd r1 z
          · exact absurd r1 z
        · rcases hv with ⟨_, z⟩ | ⟨_, _, z⟩ | ⟨e, _⟩ | ⟨_, _, _, z⟩
          · exact absurd z r0
          · exact absurd z r1
          · exact e
          · exact absurd r2 z
        · exact ⟨g2.1.tr k2.1, fun q hq => (k2.2 q hq).trans (g2.2 q hq)⟩
        · rcases hv with ⟨_, z⟩ | ⟨_, _, z⟩ | ⟨_, _, _, z⟩ | ⟨e, _⟩
          · exact absurd z r0
          · exact absurd z r1
          · exact absurd z r2
          · exact e
        · exact ⟨g2.1.tr k2.1, fun q hq => (k2.2 q hq).trans (g2.2 q hq)⟩
      · refine ⟨?_, G, hG, hX', hY⟩
        rcases hv with ⟨e, _⟩ | ⟨_, z, _⟩ | ⟨_, z, _⟩ | ⟨_, z, _⟩
        · exact e
        · exact absurd c0 z
        · exact absurd c0 z
        · exact absurd c0 z
    · have hX' : absX S10 G := by rw [e10]; exact hX
      exact s7_areTwoN hM ht ha hb hab (bn_t (by decide) (s7_haveDanced hM ht ha (by omega) (bb (fun d => by rw [c] at d; cases d) (fun _ => ⟨rfl, G, hG, hX', hY⟩))))
  · obtain rfl : S3 = X := e3
    refine s_refuse (k := 1) rfl (by omega) hX (fun X2 g1 => s7_areTwo hM ht (fun a b ha hb hab ea eb => absurd ⟨a, b, ha, hb, hab, ea, eb⟩ hno) (fun _ => bn_f rfl (s7_no (k := 1) rfl (by omega) hY (fun Y2 g2 => ⟨rfl, _, hG.rf 1, g1, g2⟩))))
