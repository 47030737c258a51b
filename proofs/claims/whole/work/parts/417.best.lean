/-! the pairs in their order -/
def pl (g : Nat → Bool) : Nat → Nat → List Nat
  | _, 0 => []
  | i, m + 1 => if g i then i :: pl g (i + 1) m else pl g (i + 1) m
theorem pl_s (g : Nat → Bool) (i m : Nat) : pl g i (m + 1) = if g i then i :: pl g (i + 1) m else pl g (i + 1) m := rfl
def rl (g : Nat → Bool) (i : Nat) : List Nat := pl g i (100 - i)
theorem rl_t {g : Nat → Bool} {i : Nat} (hi : i < 100) (h : g i = true) : rl g i = i :: rl g (i + 1) := by
  unfold rl
  rw [show 100 - i = 100 - (i + 1) + 1 by omega, pl_s, if_pos h]
theorem rl_f {g : Nat → Bool} {i : Nat} (hi : i < 100) (h : g i = false) : rl g i = rl g (i + 1) := by
  unfold rl
  rw [show 100 - i = 100 - (i + 1) + 1 by omega, pl_s, if_neg (by rw [h]; decide)]
theorem rl_skip {g : Nat → Bool} {i : Nat} : ∀ (m : Nat), i + m ≤ 100 → (∀ p, i ≤ p → p < i + m → g p = false) → rl g i = rl g (i + m)
  | 0, _, _ => rfl
  | m + 1, h, hg => by
    rw [rl_skip m (by omega) (fun p h1 h2 => hg p h1 (by omega)), rl_f (by omega) (hg (i + m) (by omega) (by omega))]
    rfl
theorem rl_nil {g : Nat → Bool} {i : Nat} (hi : i ≤ 100) (hg : ∀ p, i ≤ p → p < 100 → g p = false) : rl g i = [] := by
  rw [rl_skip (100 - i) (by omega) (fun p h1 h2 => hg p h1 (by omega)), show i + (100 - i) = 100 by omega]
  rfl
theorem pl_mem {g : Nat → Bool} {q : Nat} : ∀ (m i : Nat), q ∈ pl g i m → g q = true ∧ i ≤ q ∧ q < i + m
  | 0, i, h => by cases h
  | m + 1, i, h => by
    rw [pl_s] at h
    by_cases c : g i = true
    · rw [if_pos c, List.mem_cons] at h
      rcases h with e | e
      · rw [e]; exact ⟨c, Nat.le_refl _, by omega⟩
      · have := pl_mem m (i + 1) e; exact ⟨this.1, by omega, by omega⟩
    · rw [if_neg c] at h
      have := pl_mem m (i + 1) h; exact ⟨this.1, by omega, by omega⟩
theorem rl_mem {g : Nat → Bool} {q i : Nat} (h : q ∈ rl g i) : g q = true ∧ i ≤ q ∧ q < 100 := by
  have := pl_mem _ _ h
  exact ⟨this.1, this.2.1, by omega⟩
def isP (n p : Nat) : Bool := decide (p / 10 < p % 10) && decide (p % 10 < n)
theorem isP_iff {n p : Nat} : isP n p = true ↔ p / 10 < p % 10 ∧ p % 10 < n := by unfold isP; simp
theorem isP_f {n p : Nat} (h : ¬ (p / 10 < p % 10 ∧ p % 10 < n)) : isP n p = false := by
  cases c : isP n p
  · rfl
  · exact absurd (isP_iff.mp c) h
/-- pairs with a property -/
def gP (n : Nat) (f : EE) (p : Nat) : Bool := isP n p && f (p / 10) (p % 10)
theorem gP_f {n p : Nat} {f : EE} (h : ¬ (p / 10 < p % 10 ∧ p % 10 < n)) : gP n f p = false := by unfold gP; rw [isP_f h]; rfl
theorem gP_row {n a : Nat} (f : EE) (hn : n ≤ 8) (ha : a < n) : rl (gP n f) (10 * a + n) = rl (gP n f) (10 * (a + 1) + (a + 1 + 1)) := by
  rw [rl_skip (10 * (a + 1) + (a + 1 + 1) - (10 * a + n)) (by omega) (fun p h1 h2 => gP_f (by omega)), show 10 * a + n + (10 * (a + 1) + (a + 1 + 1) - (10 * a + n)) = 10 * (a + 1) + (a + 1 + 1) by omega]
theorem gP_end {n : Nat} (f : EE) (hn : n ≤ 8) : rl (gP n f) (10 * n + (n + 1)) = [] := rl_nil (by omega) (fun p h1 h2 => gP_f (by omega))
theorem gP_68 {n : Nat} (f : EE) (hn : n ≤ 8) : rl (gP n f) 68 = [] := rl_nil (by omega) (fun p h1 h2 => gP_f (by omega))
theorem gP_1 {n : Nat} (f : EE) (hn : n ≤ 8) : rl (gP n f) (10 * 0 + (0 + 1)) = rl (gP n f) 1 := rfl
theorem s_isPair {F : St} {t : TV} {p : Nat} {Q : Int32 → St → Prop} (hF : absF F t) (ht : okT t) (hp : p < 100) (h : Q (b2i (isP (tn t) p)) F) : wp_X2_isPair F (nI p) Q := by
  have hn := ht.1
  unfold wp_X2_isPair wp_X6_lesserOf wp_X6_greaterOf
  rw [rem10 hp, div10 hp]
  dsimp only
  by_cases c : p % 10 ≤ p / 10
  · refine br_t (nI_le c (by omega)) ?_
    rw [isP_f (by omega)] at h; exact h
  · refine br_f (fun z => c ((nI_leI (by omega) (by omega)).mp z)) (s_areTwo hF ht (fun a b ha hb hab ea eb => br_f (by decide) ?_) (fun hno => br_t rfl ?_))
    · rw [nI_inj8 (by omega) (by omega)] at ea eb
      rw [isP_iff.mpr ⟨by omega, by omega⟩] at h; exact h
    · have : ¬ (p / 10 < p % 10 ∧ p % 10 < tn t) := fun z => hno ⟨p / 10, p % 10, by omega, z.2, by omega, rfl, rfl⟩
      rw [isP_f this] at h; exact h
theorem s_isOpen {F : St} {t : TV} {p : Nat} {Q : Int32 → St → Prop} (hF : absF F t) (ht : okT t) (hp : p < 100) (h : Q (b2i (gP (tn t) (fun a b => !te t a b) p)) F) : wp_X2_isOpenPair F (nI p) Q := by
  have hn := ht.1
  unfold wp_X2_isOpenPair
  refine s_isPair hF ht hp (bb (fun c => ?_) (fun c => ?_))
  · unfold gP at h; rw [c] at h; exact h
  · have := isP_iff.mp c
    unfold wp_X6_lesserOf wp_X6_greaterOf
    rw [rem10 hp, div10 hp]
    unfold gP at h; rw [c, Bool.true_and] at h
    exact s_haveDanced hF ht (by omega) (by omega) (bb' (fun d => by dsimp only at h; rw [d] at h; exact h) (fun d => by dsimp only at h; rw [d] at h; exact h))
theorem s_isDancedP {F : St} {t : TV} {p : Nat} {Q : Int32 → St → Prop} (hF : absF F t) (ht : okT t) (hp : p < 100) (h : Q (b2i (gP (tn t) (te t) p)) F) : wp_X2_isDancedPair F (nI p) Q := by
  have hn := ht.1
  unfold wp_X2_isDancedPair
  refine s_isPair hF ht hp (bb (fun c => ?_) (fun c => ?_))
  · unfold gP at h; rw [c] at h; exact h
  · have := isP_iff.mp c
    unfold wp_X6_lesserOf wp_X6_greaterOf
    rw [rem10 hp, div10 hp]
    unfold gP at h; rw [c, Bool.true_and] at h
    exact s_haveDanced hF ht (by omega) (by omega) (bb (fun d => by rw [d] at h; exact h) (fun d => by rw [d] at h; exact h))
/-! the pair that opens most -/
def bgo (w : Nat → Nat) : List Nat → Int32 → Int32 → Int32
  | [], f, _ => f
  | p :: l, f, m => if nI (w p) ≤ m then bgo w l f m else bgo w l (nI p) (nI (w p))
theorem bgo_c (w : Nat → Nat) (p : Nat) (l : List Nat) (f m : Int32) : bgo w (p :: l) f m = if nI (w p) ≤ m then bgo w l f m else bgo w l (nI p) (nI (w p)) := rfl
def wO (t : TV) (p : Nat) : Nat := pE (fin (P0 t) (addE (te t) (p / 10) (p % 10))) (tn t)
theorem wO_le {t : TV} (ht : okT t) (p : Nat) : wO t p ≤ 40 := by
  have := pE_le (fin (P0 t) (addE (te t) (p / 10) (p % 10))) ht.1
  unfold wO pE; omega
theorem l_best {F : St} {t : TV} {V : Int32} {Q : Int32 → (Nat → St) → St → Prop} (hF : absF F t) (ht : okT t) (hQ : ∀ M, Q V M F) :
    ∀ (m p : Nat) (M : Nat → St) (mo f : Int32), p + m = 68 → bgo (wO t) (rl (gP (tn t) (fun a b => !te t a b)) p) f mo = V → wp_X3_pairThatOpensMost_8 Q (m + 1) M F mo f (nI p)
  | 0, p, M, mo, f, hp, hV => by
    have : p = 68 := by omega
    subst this
    unfold wp_X3_pairThatOpensMost_8
    rw [gP_68 _ ht.1] at hV
    have hV' : f = V := hV
    exact br_t (by decide) (by rw [hV']; exact hQ M)
  | m + 1, p, M, mo, f, hp, hV => by
    have hn := ht.1
    unfold wp_X3_pairThatOpensMost_8
    rw [nI_1]
    refine br_f (fun c => by rw [show (67 : Int32) = nI 67 from rfl, nI_ltI (by omega) (by omega)] at c; omega) (s_isOpen hF ht (by omega) (bb (fun c => ?_) (fun c => ?_)))
    · rw [rl_f (by omega) c] at hV
      exact l_best hF ht hQ m (p + 1) M mo f (by omega) hV
    · rw [rl_t (by omega) c, bgo_c] at hV
      unfold gP at c
      rw [Bool.and_eq_true] at c
      have c1 := isP_iff.mp c.1
      refine s_pairsWith hF ht (by omega) (by omega) (by omega) (by omega) (fun M' => ?_)
      show (nI (wO t p) ≤ mo → _) ∧ (¬ nI (wO t p) ≤ mo → _)
      by_cases d : nI (wO t p) ≤ mo
      · rw [if_pos d] at hV
        exact br_t d (l_best hF ht hQ m (p + 1) M' mo f (by omega) hV)
      · rw [if_neg d] at hV
        exact br_f d (l_best hF ht hQ m (p + 1) M' _ _ (by omega) hV)
/-- where the reference stands -/
def rB (x1 x2 f mo : Int32) : Prop := x1 = f ∧ ((f = -9 ∧ mo = -1) ∨ (¬ f < 0 ∧ x2 = mo))
theorem l7_b20 {Y : St} {t : TV} {V : Int32} {a : Nat} {K : St → Int32 → Int32 → Int32 → Prop} {Q : Int32 → St → Prop} (ht : okT t) (ha : a < tn t)
    (hK : ∀ T x1 x2 f mo, absF (flM T) t → frm [22] [4, 19, 20, 21] Y T → rB x1 x2 f mo → bgo (wO t) (rl (gP (tn t) (fun a b => !te t a b)) (10 * (a + 1) + (a + 1 + 1))) f mo = V → K T x1 x2 (nI (a + 1))) :
    ∀ (m b : Nat) (T : St) (x1 x2 f mo : Int32), b + m = tn t → a < b → absF (flM T) t → frm [22] [4, 19, 20, 21] Y T → rB x1 x2 f mo → bgo (wO t) (rl (gP (tn t) (fun a b => !te t a b)) (10 * a + b)) f mo = V → wp_X7_best_20 K Q (m + 1) T x1 x2 (nI a) (nI b)
  | 0, b, T, x1, x2, f, mo, hb, hab, hF, hf, hr, hV => by
    have hn := ht.1
    have : b = tn t := by omega
    subst this
    unfold wp_X7_best_20
    rw [show T.1 5 = nI (tn t) from hF.1, nI_1]
    rw [gP_row _ hn ha] at hV
    exact br_t (nI_le (Nat.le_refl _) (by omega)) (hK T x1 x2 f mo hF hf hr hV)
  | m + 1, b, T, x1, x2, f, mo, hb, hab, hF, hf, hr, hV => by
    have hn := ht.1
    have q1 : (10 * a + b) / 10 = a := by omega
    have q2 : (10 * a + b) % 10 = b := by omega
    have hw := wO_le ht (10 * a + b)
    have hg : gP (tn t) (fun a b => !te t a b) (10 * a + b) = !te t a b := by
      unfold gP
      rw [q1, q2, isP_iff.mpr ⟨by omega, by omega⟩, Bool.true_and]
    unfold wp_X7_best_20
    rw [show T.1 5 = nI (tn t) from hF.1, nI_1 b]
    refine br_f (fun c => by rw [nI_leI (by omega) (by omega)] at c; omega) (s7_haveDanced hF ht ha (by omega) (bb (fun c => ?_) (fun c => ?_)))
    · rw [rl_t (by omega) (by rw [hg, c]; rfl), bgo_c] at hV
      refine s7_closesWith hF ht ha (by omega) (by omega) c (fun T2 hF2 f2 => ?_)
      have ew : nI (pE (fin (P0 t) (addE (te t) a b)) (tn t)) = nI (wO t (10 * a + b)) := by unfold wO; rw [q1, q2]
      rw [ew]
      have hf2 := hf.tr f2
      have take : bgo (wO t) (rl (gP (tn t) (fun a b => !te t a b)) (10 * a + b + 1)) (nI (10 * a + b)) (nI (wO t (10 * a + b))) = V → wp_X7_best_64 (fun s0 v0 v1 v2 v3 => wp_X7_best_20 K Q (m + 1) s0 v0 v1 v2 v3) K Q T2 (nI a) (nI b) (nI (wO t (10 * a + b))) := by
        intro hV
        unfold wp_X7_best_64
        rw [nI_1, show (10 : Int32) * nI a = nI (10 * a) from pk_mul 10 a, nI_add]
        exact l7_b20 ht ha hK m (b + 1) T2 _ _ (nI (10 * a + b)) (nI (wO t (10 * a + b))) (by omega) (by omega) hF2 hf2 ⟨rfl, Or.inr ⟨nI_pos (by omega), rfl⟩⟩ hV
      obtain ⟨r1, r2⟩ := hr
      rcases r2 with ⟨e1, e2⟩ | ⟨e1, e2⟩
      · refine br_t (by rw [r1, e1]; decide) (take ?_)
        rw [if_neg (by
          rw [e2, Int32.le_iff_toInt_le]
          have h0 := nI_pos (n := wO t (10 * a + b)) (by omega)
          rw [Int32.lt_iff_toInt_lt] at h0
          have e3 : (-1 : Int32).toInt = -1 := rfl
          have e4 : (0 : Int32).toInt = 0 := rfl
          omega)] at hV
        exact hV
      · refine br_f (by rw [r1]; exact e1) ?_
        rw [e2]
        by_cases d : nI (wO t (10 * a + b)) ≤ mo
        · rw [if_pos d] at hV
          exact br_f (fun z => by rw [Int32.lt_iff_toInt_lt] at z; rw [Int32.le_iff_toInt_le] at d; omega) (l7_b20 ht ha hK m (b + 1) T2 x1 mo f mo (by omega) (by omega) hF2 hf2 ⟨r1, Or.inr ⟨e1, rfl⟩⟩ hV)
        · rw [if_neg d] at hV
          exact br_t (by rw [Int32.lt_iff_toInt_lt]; rw [Int32.le_iff_toInt_le] at d; omega) (take hV)
    · rw [rl_f (by omega) (by rw [hg, c]; rfl)] at hV
      exact l7_b20 ht ha hK m (b + 1) T x1 x2 f mo (by omega) (by omega) hF hf hr hV
theorem l7_b7 {Y : St} {t : TV} {V : Int32} {Q : Int32 → St → Prop} (ht : okT t) (hQ : ∀ T, absF (flM T) t → frm [22] [4, 19, 20, 21] Y T → Q V T) :
    ∀ (m a : Nat) (T : St) (x1 x2 f mo : Int32), a + m = tn t → absF (flM T) t → frm [22] [4, 19, 20, 21] Y T → rB x1 x2 f mo → bgo (wO t) (rl (gP (tn t) (fun a b => !te t a b)) (10 * a + (a + 1))) f mo = V → wp_X7_best_7 Q (m + 1) T x1 x2 (nI a)
  | 0, a, T, x1, x2, f, mo, ha, hF, hf, hr, hV => by
    have hn := ht.1
    have : a = tn t := by omega
    subst this
    unfold wp_X7_best_7
    rw [show T.1 5 = nI (tn t) from hF.1]
    rw [gP_end _ hn] at hV
    have hV' : f = V := hV
    refine br_t (nI_le (Nat.le_refl _) (by omega)) ?_
    rw [hr.1, hV']
    exact hQ T hF hf
  | m + 1, a, T, x1, x2, f, mo, ha, hF, hf, hr, hV => by
    have hn := ht.1
    unfold wp_X7_best_7
    rw [show T.1 5 = nI (tn t) from hF.1, show nI a + (1 : Int32) = nI (a + 1) from nI_1 a]
    exact br_f (fun c => by rw [nI_leI (by omega) (by omega)] at c; omega) ⟨tn t - (a + 1) + 1, l7_b20 ht (by omega) (fun T x1 x2 f mo h1 h2 h3 h4 => l7_b7 ht hQ m (a + 1) T x1 x2 f mo (by omega) h1 h2 h3 h4) _ (a + 1) T x1 x2 f mo (by omega) (by omega) hF hf hr hV⟩
theorem ls_best : LS_13 Inv := by
  rintro X Y ⟨G, hG, hX, hY⟩
  have ht := hG.1
  have hF := hX.1
  have hM := hY.1
  unfold wp_X6_best
  refine ⟨68, l_best (V := bgo (wO (gt G)) (rl (gP (tn (gt G)) (fun a b => !te (gt G) a b)) 1) (-9) (-1)) hF ht (fun M S5 e5 => ?_) 67 1 _ (-1) (-9) rfl rfl⟩
  have hX' : absX S5 G := by rw [e5]; exact hX
  exact ⟨_, l7_b7 (V := bgo (wO (gt G)) (rl (gP (tn (gt G)) (fun a b => !te (gt G) a b)) 1) (-9) (-1)) ht (fun T h1 h2 => ⟨rfl, G, hG, hX', absY.fr hG hY h1 h2 (by decide) (by decide)⟩) (tn (gt G)) 0 Y (-9) 0 (-9) (-1) (by omega) hM frm.rf ⟨rfl, Or.inl ⟨rfl, rfl⟩⟩ rfl⟩
