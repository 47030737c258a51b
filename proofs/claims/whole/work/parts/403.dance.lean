/-! may; ways; the least; a dance -/
def need (t : TV) : Nat := if tl t = 1 then 2 else 1
def cbr (t : TV) (a b : Nat) : Nat := cnt (fun x => brg t x a b) 10
def may (t : TV) (a b : Nat) : Bool := !te t a b && (csn t a b || decide (need t ≤ cbr t a b))
theorem bmask_hi {t : TV} (ht : okT t) (a b : Nat) : ∀ i, 10 ≤ i → bt (bmask t a b) i = false := fun i hi => by
  have hn := ht.1
  rw [b_bmask t ht]; exact brg_big ht (by omega)
theorem bmask_cnt {t : TV} (ht : okT t) (a b : Nat) : cnt (bt (bmask t a b)) 10 = cbr t a b := cnt_congr (fun i _ => b_bmask t ht a b i)
theorem cbr_le (t : TV) (a b : Nat) : cbr t a b ≤ 10 := cnt_le _ 10
theorem s7_mayDance {Y : St} {t : TV} {a b : Nat} {Q : Int32 → St → Prop} (hF : absF (flM Y) t) (ht : okT t) (ha : a < tn t) (hb : b < tn t) (h : Q (b2i (may t a b)) Y) : wp_X7_mayDance Y (nI a) (nI b) Q := by
  have hn := ht.1
  have hl := ht.2.1
  have hc := cbr_le t a b
  unfold wp_X7_mayDance
  refine s7_haveDanced hF ht ha (by omega) (bb' (fun c => by simpa [may, c, b2i] using h) (fun c => s7_cousins hF ht ha hb (bb' (fun d => by simpa [may, c, d, b2i] using h) (fun d => s7_bringersOf hF ht ha hb (s_bits (bmask_hi ht a b) ?_)))))
  rw [bmask_cnt ht, show Y.1 6 = nI (tl t) from hF.2.1]
  by_cases e : tl t = 1
  · refine bn_f (by rw [e]; rfl) ?_
    by_cases f : 2 ≤ cbr t a b
    · exact br_f (fun z => by rw [show (2 : Int32) = nI 2 from rfl, nI_ltI (by omega) (by omega)] at z; omega) (by simpa [may, c, d, need, e, f, b2i] using h)
    · exact br_t (by rw [show (2 : Int32) = nI 2 from rfl, nI_ltI (by omega) (by omega)]; omega) (by simpa [may, c, d, need, e, f, b2i] using h)
  · refine bn_t (fun z => e ((nI_inj8 (b := 1) (by omega) (by omega)).mp z)) ?_
    by_cases f : 1 ≤ cbr t a b
    · exact br_f (fun z => by rw [show (1 : Int32) = nI 1 from rfl, nI_ltI (by omega) (by omega)] at z; omega) (by simpa [may, c, d, need, e, f, b2i] using h)
    · exact br_t (by rw [show (1 : Int32) = nI 1 from rfl, nI_ltI (by omega) (by omega)]; omega) (by simpa [may, c, d, need, e, f, b2i] using h)
/-- by whom: the bits of the class's ways -/
def wy (t : TV) (a b by_ : Nat) : Bool := !te t a b && (if csn t a b then brg t by_ a b || decide (by_ = 9) else decide (need t ≤ cbr t a b) && brg t by_ a b)
theorem s_waysToDance {F : St} {t : TV} {a b : Nat} {Q : Int32 → St → Prop} (hF : absF F t) (ht : okT t) (ha : a < tn t) (hb : b < tn t) (h : Q (mkI (wy t a b) 10) F) : wp_X2_waysToDance F (nI a) (nI b) Q := by
  have hn := ht.1
  have hl := ht.2.1
  have hc := cbr_le t a b
  have e46 : ∀ m, need t = m → te t a b = false → csn t a b = false → wp_X2_waysToDance_46 (nI a) (nI b) Q F (bmask t a b) (nI m) := by
    intro m hm c d
    have hm2 : m ≤ 2 := by rw [← hm]; unfold need; split <;> omega
    unfold wp_X2_waysToDance_46
    refine s_bitCount (bmask_hi ht a b) ?_
    rw [bmask_cnt ht]
    by_cases f : m ≤ cbr t a b
    · refine br_f (fun z => by rw [nI_ltI (by omega) (by omega)] at z; omega) ?_
      have e : mkI (wy t a b) 10 = bmask t a b := b_ext (fun i _ => by
        rw [b_mkI _ _ 10 (by omega), b_bmask t ht]
        by_cases q : i < 10
        · simp [wy, c, d, hm, f, q]
        · simp [q, brg_big ht (show tn t ≤ i by omega)])
      rw [← e]; exact h
    · refine br_t (by rw [nI_ltI (by omega) (by omega)]; omega) ?_
      have e : mkI (wy t a b) 10 = 0 := (mkI_0 (by omega)).mpr (fun i _ => by simp [wy, c, d, hm, f])
      rw [← e]; exact h
  unfold wp_X2_waysToDance
  refine s_haveDanced hF ht ha (by omega) (bb (fun c => s_whoBring hF ht ha hb (s_cousins hF ht ha hb (bb (fun d => ?_) (fun d => ?_)))) (fun c => ?_))
  · rw [hF.2.1]
    by_cases e : tl t = 1
    · exact bn_f (by rw [e]; rfl) (e46 2 (by simp [need, e]) c d)
    · exact bn_t (fun z => e ((nI_inj8 (b := 1) (by omega) (by omega)).mp z)) (e46 1 (by simp [need, e]) c d)
  · have e : mkI (wy t a b) 10 = bmask t a b ||| 512 := b_ext (fun i _ => by
      rw [b_mkI _ _ 10 (by omega), b_or, b_bmask t ht, show (512 : Int32) = b1 9 from rfl, b_b1 (by omega)]
      by_cases q : i < 10
      · simp [wy, c, d, q]
      · have : i ≠ 9 := by omega
        simp [q, this, brg_big ht (show tn t ≤ i by omega)])
    rw [← e]; exact h
  · have e : mkI (wy t a b) 10 = 0 := (mkI_0 (by omega)).mpr (fun i _ => by simp [wy, c])
    rw [← e]; exact h
theorem cnt_pos {f : Nat → Bool} {n : Nat} (h : 1 ≤ cnt f n) : ∃ i, i < n ∧ f i = true := by
  refine Classical.byContradiction (fun c => ?_)
  have : cnt f n = 0 := cnt_0.mpr (fun i hi => by
    cases e : f i
    · rfl
    · exact absurd ⟨i, hi, e⟩ c)
  omega
theorem need_pos (t : TV) : 1 ≤ need t := by unfold need; split <;> omega
theorem wy_may {t : TV} (a b : Nat) : mkI (wy t a b) 10 = 0 ↔ may t a b = false := by
  rw [mkI_0 (by omega)]
  constructor
  · intro h
    cases c : te t a b
    · cases d : csn t a b
      · by_cases e : need t ≤ cbr t a b
        · obtain ⟨i, hi, q⟩ := cnt_pos (Nat.le_trans (need_pos t) e)
          have := h i hi
          simp [wy, c, d, e, q] at this
        · simp [may, c, d, e]
      · have := h 9 (by omega)
        simp [wy, c, d] at this
    · simp [may, c]
  · intro h i _
    cases c : te t a b
    · cases d : csn t a b
      · by_cases e : need t ≤ cbr t a b
        · simp [may, c, d, e] at h
        · simp [wy, c, d, e]
      · simp [may, c, d] at h
    · simp [wy, c]
theorem s_isAllowed {F : St} {t : TV} {a b : Nat} {Q : Int32 → St → Prop} (hF : absF F t) (ht : okT t) (ha : a < tn t) (hb : b < tn t) (h : Q (b2i (may t a b)) F) : wp_X2_isAllowed F (nI a) (nI b) Q := by
  unfold wp_X2_isAllowed
  refine s_waysToDance hF ht ha hb ?_
  cases c : may t a b
  · rw [c] at h
    exact br_t ((wy_may a b).mpr c) h
  · rw [c] at h
    exact br_f (fun e => by rw [(wy_may a b).mp e] at c; cases c) h
/-- the least place below eight, else nine -/
def lowF (f : Nat → Bool) : Nat → Nat → Nat
  | _, 0 => 9
  | i, m + 1 => if f i then i else lowF f (i + 1) m
def low (f : Nat → Bool) : Nat := lowF f 0 8
theorem lowF_congr {f g : Nat → Bool} : ∀ (m i : Nat), (∀ j, i ≤ j → j < i + m → f j = g j) → lowF f i m = lowF g i m
  | 0, _, _ => rfl
  | m + 1, i, h => by unfold lowF; rw [h i (by omega) (by omega), lowF_congr m (i + 1) (fun j h1 h2 => h j (by omega) (by omega))]
theorem lowF_spec {f : Nat → Bool} : ∀ (m i : Nat), (lowF f i m = 9 ∧ ∀ j, i ≤ j → j < i + m → f j = false) ∨ (i ≤ lowF f i m ∧ lowF f i m < i + m ∧ f (lowF f i m) = true ∧ ∀ j, i ≤ j → j < lowF f i m → f j = false)
  | 0, i => Or.inl ⟨rfl, fun j h1 h2 => by omega⟩
  | m + 1, i => by
    unfold lowF
    by_cases c : f i = true
    · rw [if_pos c]
      exact Or.inr ⟨Nat.le_refl i, by omega, c, fun j h1 h2 => by omega⟩
    · rw [if_neg c]
      have ci : f i = false := by simpa using c
      rcases lowF_spec (f := f) m (i + 1) with ⟨h1, h2⟩ | ⟨h1, h2, h3, h4⟩
      · refine Or.inl ⟨h1, fun j h3 h4 => ?_⟩
        rcases Nat.lt_or_ge i j with q | q
        · exact h2 j q (by omega)
        · have : j = i := by omega
          rw [this]; exact ci
      · refine Or.inr ⟨by omega, by omega, h3, fun j h5 h6 => ?_⟩
        rcases Nat.lt_or_ge i j with q | q
        · exact h4 j q h6
        · have : j = i := by omega
          rw [this]; exact ci
theorem low_spec (f : Nat → Bool) : (low f = 9 ∧ ∀ j, j < 8 → f j = false) ∨ (low f < 8 ∧ f (low f) = true ∧ ∀ j, j < low f → f j = false) := by
  rcases lowF_spec (f := f) 8 0 with ⟨h1, h2⟩ | ⟨h1, h2, h3, h4⟩
  · exact Or.inl ⟨h1, fun j hj => h2 j (by omega) (by omega)⟩
  · exact Or.inr ⟨by unfold low; omega, h3, fun j hj => h4 j (by omega) hj⟩
theorem l_leastOf {x : Int32} {Q : Int32 → Prop} : ∀ (m i : Nat), i + m = 8 → Q (nI (lowF (bt x) i m)) → wp_X6_leastOf_2 x Q (m + 1) (nI i)
  | 0, i, hi, h => by
    unfold wp_X6_leastOf_2
    have : i = 8 := by omega
    subst this
    exact br_t (by decide) h
  | m + 1, i, hi, h => by
    unfold wp_X6_leastOf_2
    refine br_f (fun c => by rw [show (8 : Int32) = nI 8 from rfl, nI_leI (by omega) (by omega)] at c; omega) (s_hasBit (by omega) ?_)
    unfold lowF at h
    rw [nI_1]
    refine bb (fun c => ?_) (fun c => ?_)
    · rw [if_neg (by rw [c]; decide)] at h
      exact l_leastOf m (i + 1) (by omega) h
    · rw [if_pos c] at h
      exact h
theorem s_leastOf {x : Int32} {Q : Int32 → Prop} (h : Q (nI (low (bt x)))) : wp_X6_leastOf x Q := ⟨9, l_leastOf 8 0 rfl h⟩
theorem l_lowest {x : Int32} {Q : Int32 → Prop} : ∀ (m i : Nat), i + m ≤ 8 → (∃ j, i ≤ j ∧ j < i + m ∧ bt x j = true) → Q (nI (lowF (bt x) i m)) → wp_X7_lowest_2 x Q m (nI i)
  | 0, i, _, ⟨j, h1, h2, _⟩, _ => by omega
  | m + 1, i, hi, ⟨j, h1, h2, h3⟩, h => by
    unfold wp_X7_lowest_2
    unfold lowF at h
    rw [b_sel (by omega), nI_1]
    refine bb' (fun c => ?_) (fun c => ?_)
    · rw [if_pos c] at h
      exact h
    · rw [if_neg (by rw [c]; decide)] at h
      refine l_lowest m (i + 1) (by omega) ⟨j, ?_, by omega, h3⟩ h
      rcases Nat.lt_or_ge i j with q | q
      · exact q
      · have : j = i := by omega
        rw [this, c] at h3
        cases h3
theorem s7_lowest {x : Int32} {Q : Int32 → Prop} (he : ∃ j, j < 8 ∧ bt x j = true) (h : Q (nI (low (bt x)))) : wp_X7_lowest x Q := by
  obtain ⟨j, h1, h2⟩ := he
  exact ⟨8, l_lowest 8 0 (by omega) ⟨j, Nat.zero_le j, by omega, h2⟩ h⟩
/-! the dance -/
def addE (e : Nat → Nat → Bool) (a b : Nat) : Nat → Nat → Bool := fun i j => e i j || ((decide (i = a) && decide (j = b)) || (decide (i = b) && decide (j = a)))
def setE (t : TV) (e : Nat → Nat → Bool) : TV := (t.1, t.2.1, t.2.2.1, t.2.2.2.1, t.2.2.2.2.1, e)
def setB (t : TV) (br : Nat → Int32) : TV := (t.1, t.2.1, t.2.2.1, t.2.2.2.1, br, t.2.2.2.2.2)
def addT (t : TV) (a b : Nat) : TV := setE t (addE (te t) a b)
def incB (t : TV) (i : Nat) : TV := setB t (fun j => if j = i then tb t j + 1 else tb t j)
theorem okT.add {t : TV} (ht : okT t) {a b : Nat} (ha : a < tn t) (hb : b < tn t) (hab : a ≠ b) : okT (addT t a b) := by
  obtain ⟨h1, h2, h3, h4, h5, h6⟩ := ht
  refine ⟨h1, h2, h3, h4, fun i j h => ?_, fun i j => ?_⟩
  · have h' : (te t i j || ((decide (i = a) && decide (j = b)) || (decide (i = b) && decide (j = a)))) = true := h
    simp only [Bool.or_eq_true, Bool.and_eq_true, decide_eq_true_eq] at h'
    rcases h' with q | ⟨q1, q2⟩ | ⟨q1, q2⟩
    · exact h5 i j q
    · subst q1; subst q2; exact ⟨ha, hb, hab⟩
    · subst q1; subst q2; exact ⟨hb, ha, fun e => hab e.symm⟩
  · show addE (te t) a b i j = addE (te t) a b j i
    unfold addE
    rw [h6 i j]
    by_cases c1 : i = a <;> by_cases c2 : i = b <;> by_cases c3 : j = a <;> by_cases c4 : j = b <;> simp [c1, c2, c3, c4]
theorem okT.inc {t : TV} (ht : okT t) (br : Nat → Int32) : okT (setB t br) := ht
theorem upd_s (f : Nat → Int32) (k : Nat) (x : Int32) : upd f k x k = x := if_pos rfl
theorem upd_n (f : Nat → Int32) {k j : Nat} (x : Int32) (h : j ≠ k) : upd f k x j = f j := if_neg h
theorem sA_s (S : St) (k i : Nat) (v : Int32) : (sA S k i v).2 k = upd (S.2 k) i v := if_pos rfl
theorem sA_n (S : St) {k q : Nat} (i : Nat) (v : Int32) (h : q ≠ k) : (sA S k i v).2 q = S.2 q := if_neg h
theorem sA_1 (S : St) (k i : Nat) (v : Int32) : (sA S k i v).1 = S.1 := rfl
theorem sI_s (S : St) (k : Nat) (v : Int32) : (sI S k v).1 k = v := if_pos rfl
theorem sI_n (S : St) {k q : Nat} (v : Int32) (h : q ≠ k) : (sI S k v).1 q = S.1 q := if_neg h
theorem sI_2 (S : St) (k : Nat) (v : Int32) : (sI S k v).2 = S.2 := rfl
theorem absF.join {F : St} {t : TV} (hF : absF F t) (ht : okT t) {a b : Nat} (ha : a < tn t) (hb : b < tn t) (hab : a ≠ b) :
    absF (sA (sA F 5 a (F.2 5 a ||| b1 b)) 5 b ((sA F 5 a (F.2 5 a ||| b1 b)).2 5 b ||| b1 a)) (addT t a b) := by
  have hn := ht.1
  obtain ⟨h1, h2, h3, h4, h5, h6⟩ := hF
  refine ⟨h1, h2, h3, h4, h5, fun i hi j => ?_⟩
  show bt ((sA (sA F 5 a (F.2 5 a ||| b1 b)) 5 b ((sA F 5 a (F.2 5 a ||| b1 b)).2 5 b ||| b1 a)).2 5 i) j = addE (te t) a b i j
  rw [sA_s, sA_s]
  unfold addE
  by_cases c1 : i = b
  · subst c1
    rw [upd_s, upd_n _ _ (fun e => hab e.symm), b_or, h6 i hi j, b_b1 (by omega)]
    have : ¬ i = a := fun e => hab e.symm
    simp [this]
  · rw [upd_n _ _ c1]
    by_cases c2 : i = a
    · subst c2
      rw [upd_s, b_or, h6 i hi j, b_b1 (by omega)]
      simp [c1]
    · rw [upd_n _ _ c2, h6 i hi j]
      simp [c1, c2]
theorem s_join {F : St} {t : TV} {a b : Nat} {Q : Int32 → St → Prop} (hF : absF F t) (ht : okT t) (ha : a < tn t) (hb : b < tn t) (hab : a ≠ b) (h : ∀ F', absF F' (addT t a b) → Q 1 F') : wp_X2_join F (nI a) (nI b) Q := by
  have hn := ht.1
  have hva : vp_in (nI a) 8 := vp_in_nI (by omega) (by omega)
  have hvb : vp_in (nI b) 8 := vp_in_nI (by omega) (by omega)
  unfold wp_X2_join
  refine s_areTwoN hF ht ha hb hab (bn_t (by decide) ?_)
  rw [nI_clamp (n := a) (by omega), nI_clamp (n := b) (by omega)]
  refine ⟨hva, hva, fun S1 e1 => ⟨hvb, hvb, fun S2 e2 => h S2 ?_⟩⟩
  rw [e2, e1]
  exact hF.join ht ha hb hab
/-- what changes besides the floor: nothing but these slots -/
def frm (is as : List Nat) (Y Y' : St) : Prop := (∀ s, s ∉ is → Y'.1 s = Y.1 s) ∧ ∀ s, s ∉ as → Y'.2 s = Y.2 s
theorem frm.rf {is as : List Nat} {Y : St} : frm is as Y Y := ⟨fun _ _ => rfl, fun _ _ => rfl⟩
theorem frm.tr {is as : List Nat} {Y Y' Y'' : St} (h : frm is as Y Y') (h' : frm is as Y' Y'') : frm is as Y Y'' := ⟨fun s hs => (h'.1 s hs).trans (h.1 s hs), fun s hs => (h'.2 s hs).trans (h.2 s hs)⟩
theorem frm.mono {is as is' as' : List Nat} {Y Y' : St} (h : frm is as Y Y') (hi : ∀ s, s ∈ is → s ∈ is') (ha : ∀ s, s ∈ as → s ∈ as') : frm is' as' Y Y' := ⟨fun s hs => h.1 s (fun z => hs (hi s z)), fun s hs => h.2 s (fun z => hs (ha s z))⟩
theorem frm.sA {Y : St} (k i : Nat) (v : Int32) : frm [] [k] Y (sA Y k i v) := ⟨fun _ _ => rfl, fun s hs => sA_n Y i v (fun e => hs (by rw [e]; exact List.mem_singleton.mpr rfl))⟩
theorem frm.sI {Y : St} (k : Nat) (v : Int32) : frm [k] [] Y (sI Y k v) := ⟨fun s hs => sI_n Y v (fun e => hs (by rw [e]; exact List.mem_singleton.mpr rfl)), fun _ _ => rfl⟩
theorem flM_sA (Y : St) (k i : Nat) (v : Int32) : flM (sA Y (k + 1) i v) = sA (flM Y) (k + 2) i v := by
  refine Prod.ext rfl ?_
  funext s
  show (if s - 1 = k + 1 then upd (Y.2 (k + 1)) i v else Y.2 (s - 1)) = if s = k + 2 then upd (Y.2 (k + 2 - 1)) i v else Y.2 (s - 1)
  by_cases c : s = k + 2
  · subst c; simp
  · have : ¬ s - 1 = k + 1 := by omega
    rw [if_neg c, if_neg this]
theorem s7_joins {Y : St} {t : TV} {a b : Nat} {Q : St → Prop} (hF : absF (flM Y) t) (ht : okT t) (ha : a < tn t) (hb : b < tn t) (hab : a ≠ b) (h : ∀ Y', absF (flM Y') (addT t a b) → frm [] [4] Y Y' → Q Y') : wp_X7_joins Y (nI a) (nI b) Q := by
  have hn := ht.1
  have hva : vp_in (nI a) 8 := vp_in_nI (by omega) (by omega)
  have hvb : vp_in (nI b) 8 := vp_in_nI (by omega) (by omega)
  unfold wp_X7_joins
  rw [nI_clamp (n := a) (by omega), nI_clamp (n := b) (by omega)]
  refine ⟨hva, hva, fun S1 e1 => ⟨hvb, hvb, fun S2 e2 => h S2 ?_ ?_⟩⟩
  · have := hF.join ht ha hb hab
    rw [e2, e1, flM_sA _ 3, flM_sA _ 3]
    exact this
  · rw [e2, e1]
    exact (frm.sA 4 _ _).tr (frm.sA 4 _ _)
