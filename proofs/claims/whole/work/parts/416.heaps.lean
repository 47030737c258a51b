/-! heaps that hang together -/
def clo (E : EE) (S : Nat → Bool) : Prop := ∀ i j, S i = true → E i j = true → S j = true
def nx (E : EE) (n : Nat) (S : Nat → Bool) : Nat → Bool := fun j => S j || decide (0 < cnt (fun i => S i && E i j) n)
def nxk (E : EE) (n : Nat) : Nat → (Nat → Bool) → Nat → Bool
  | 0, S => S
  | k + 1, S => nx E n (nxk E n k S)
def stp (E : EE) (S S' : Nat → Bool) : Prop := (∀ j, S j = true → S' j = true) ∧ (∀ T, clo E T → (∀ j, S j = true → T j = true) → ∀ j, S' j = true → T j = true) ∧ ∀ i j, S i = true → E i j = true → S' j = true
def prg (E : EE) (n k : Nat) (S0 S : Nat → Bool) : Prop := (∀ j, S0 j = true → S j = true) ∧ (∀ T, clo E T → (∀ j, S0 j = true → T j = true) → ∀ j, S j = true → T j = true) ∧ (clo E S ∨ k + 1 ≤ cnt S n)
def lc (E : EE) (S0 S : Nat → Bool) : Prop := (∀ j, S0 j = true → S j = true) ∧ clo E S ∧ ∀ T, clo E T → (∀ j, S0 j = true → T j = true) → ∀ j, S j = true → T j = true
theorem lc_uniq {E : EE} {S0 S T : Nat → Bool} (h1 : lc E S0 S) (h2 : lc E S0 T) : S = T := by
  funext j
  rw [Bool.eq_iff_iff]
  exact ⟨h1.2.2 T h2.2.1 h2.1 j, h2.2.2 S h1.2.1 h1.1 j⟩
theorem cnt_full {f : Nat → Bool} : ∀ {n : Nat}, n ≤ cnt f n → ∀ i, i < n → f i = true
  | 0, _, i, hi => by omega
  | n + 1, h, i, hi => by
    have := cnt_le f n
    rw [cnt_s] at h
    by_cases c : f n = true
    · rw [if_pos c] at h
      rcases Nat.lt_or_ge i n with q | q
      · exact cnt_full (n := n) (by omega) i q
      · rw [show i = n by omega]; exact c
    · rw [if_neg c] at h; omega
theorem prg_s {E : EE} {n k : Nat} {S0 S S' : Nat → Bool} (hE : okE n E) (h : prg E n k S0 S) (hs : stp E S S') : prg E n (k + 1) S0 S' := by
  refine ⟨fun j z => hs.1 j (h.1 j z), fun T hT hz => hs.2.1 T hT (h.2.1 T hT hz), ?_⟩
  by_cases c : clo E S
  · refine Or.inl (fun i j hi hij => ?_)
    exact hs.1 j (c i j (hs.2.1 S c (fun _ z => z) i hi) hij)
  · have hk : k + 1 ≤ cnt S n := h.2.2.resolve_left c
    refine Or.inr ?_
    have : ∃ i j, S i = true ∧ E i j = true ∧ S j = false := by
      refine Classical.byContradiction (fun q => c (fun i j hi hij => ?_))
      cases w : S j
      · exact absurd ⟨i, j, hi, hij, w⟩ q
      · rfl
    obtain ⟨i, j, h1, h2, h3⟩ := this
    have := cnt_lt (f := S) (g := S') (k := j) h3 (hs.2.2 i j h1 h2) (hE.1 i j h2).2.1 (fun q _ z => hs.1 q z)
    omega
theorem prg_lc {E : EE} {n k : Nat} {S0 S : Nat → Bool} (hE : okE n E) (hk : n ≤ k + 1) (h : prg E n k S0 S) : lc E S0 S := by
  refine ⟨h.1, ?_, h.2.1⟩
  rcases h.2.2 with c | c
  · exact c
  · intro i j _ hij
    exact cnt_full (Nat.le_trans hk c) j (hE.1 i j hij).2.1
theorem prg_0 (E : EE) {n i : Nat} {S0 : Nat → Bool} (hi : i < n) (h : S0 i = true) : prg E n 0 S0 S0 := by
  refine ⟨fun _ z => z, fun _ _ z => z, Or.inr ?_⟩
  refine Nat.pos_of_ne_zero (fun e => ?_)
  rw [cnt_0.mp e i hi] at h; cases h
theorem stp_nx {E : EE} {n : Nat} (hE : okE n E) (S : Nat → Bool) : stp E S (nx E n S) := by
  refine ⟨fun j z => by unfold nx; rw [z]; rfl, fun T hT hz j h => ?_, fun i j hi hij => ?_⟩
  · unfold nx at h
    rw [Bool.or_eq_true, decide_eq_true_eq] at h
    rcases h with q | q
    · exact hz j q
    · obtain ⟨i, _, w⟩ := cnt_pos q
      rw [Bool.and_eq_true] at w
      exact hT i j (hz i w.1) w.2
  · unfold nx
    rw [Bool.or_eq_true, decide_eq_true_eq]
    refine Or.inr (Nat.pos_of_ne_zero (fun e => ?_))
    have := cnt_0.mp e i (hE.1 i j hij).1
    rw [hi, hij] at this; cases this
theorem prg_nxk {E : EE} {n i : Nat} (hE : okE n E) {S0 : Nat → Bool} (hi : i < n) (h : S0 i = true) : ∀ k, prg E n k S0 (nxk E n k S0)
  | 0 => prg_0 E hi h
  | k + 1 => prg_s hE (prg_nxk hE hi h k) (stp_nx hE _)
def hc (E : EE) (n : Nat) (S : Nat → Bool) : Nat → Bool := nxk E n 8 S
theorem lc_hc {E : EE} {n i : Nat} (hn : n ≤ 8) (hE : okE n E) {S0 : Nat → Bool} (hi : i < n) (h : S0 i = true) : lc E S0 (hc E n S0) := prg_lc hE (by omega) (prg_nxk hE hi h 8)
def US (E : EE) (n : Nat) : Nat → Nat → Bool
  | 0 => fun _ => false
  | d + 1 => if US E n d d then US E n d else hc E n (fun j => US E n d j || decide (j = d))
theorem US_s (E : EE) (n d : Nat) : US E n (d + 1) = if US E n d d then US E n d else hc E n (fun j => US E n d j || decide (j = d)) := rfl
theorem clo_US {E : EE} {n : Nat} (hn : n ≤ 8) (hE : okE n E) : ∀ d, d ≤ n → clo E (US E n d)
  | 0, _ => fun i j h _ => by cases h
  | d + 1, hd => by
    have ih := clo_US hn hE d (by omega)
    rw [US_s]
    split
    · exact ih
    · exact (lc_hc hn hE (i := d) (by omega) (by simp)).2.1
theorem US_cl {E : EE} {n d : Nat} (hn : n ≤ 8) (hE : okE n E) (hd : d < n) (h : US E n d d = false) {H : Nat → Bool} (hH : lc E (fun j => decide (j = d)) H) : (fun j => US E n d j || H j) = US E n (d + 1) := by
  have hU := clo_US hn hE d (by omega)
  rw [US_s, if_neg (by rw [h]; decide)]
  refine lc_uniq (S0 := fun j => US E n d j || decide (j = d)) ⟨fun j z => ?_, fun i j z hij => ?_, fun T hT hz j z => ?_⟩ (lc_hc hn hE hd (by simp))
  · rw [Bool.or_eq_true] at z ⊢
    exact z.imp id (hH.1 j)
  · dsimp only at z ⊢
    rw [Bool.or_eq_true] at z ⊢
    exact z.imp (fun w => hU i j w hij) (fun w => hH.2.1 i j w hij)
  · dsimp only at z
    rw [Bool.or_eq_true] at z
    rcases z with q | q
    · exact hz j (by dsimp only; rw [q]; rfl)
    · exact hH.2.2 T hT (fun i w => hz i (by dsimp only at w ⊢; rw [w]; simp)) j q
theorem US_ref {E : EE} {n d : Nat} (hn : n ≤ 8) (hE : okE n E) (hd : d < n) (h : US E n d d = false) {H : Nat → Bool} (hH : lc E (fun j => US E n d j || decide (j = d)) H) : H = US E n (d + 1) := by
  rw [US_s, if_neg (by rw [h]; decide)]
  exact lc_uniq hH (lc_hc hn hE hd (by simp))
/-! the class -/
theorem l_heap20 {F : St} {t : TV} {K : St → Int32 → Int32 → Prop} {x1 : Int32} {Q : Int32 → St → Prop} (hF : absF F t) (ht : okT t) {x2 x3 : Int32} (hK : ∀ x, (∀ j, bt x j = nx (te t) (tn t) (bt x2) j) → K F x (x3 + 1)) :
    ∀ (m i : Nat) (x4 : Int32), i + m = tn t → (∀ j, bt x4 j = (bt x2 j || decide (0 < cnt (fun q => bt x2 q && te t q j) i))) → wp_X2_heapOf_20 K x1 Q (m + 1) F x2 x3 x4 (nI i)
  | 0, i, x4, hi, hx => by
    have hn := ht.1
    unfold wp_X2_heapOf_20
    have : i = tn t := by omega
    subst this
    rw [hF.1]
    exact br_t (nI_le (Nat.le_refl _) (by omega)) (hK x4 hx)
  | m + 1, i, x4, hi, hx => by
    have hn := ht.1
    unfold wp_X2_heapOf_20
    rw [hF.1, nI_clamp (n := i) (by omega), nI_1 i]
    refine br_f (fun c => by rw [nI_leI (by omega) (by omega)] at c; omega) (s_hasBit (by omega) (bb (fun c => l_heap20 hF ht hK m (i + 1) x4 (by omega) (fun j => ?_)) (fun c => ⟨vp_in_nI (by omega) (by omega), l_heap20 hF ht hK m (i + 1) _ (by omega) (fun j => ?_)⟩)))
    · rw [hx j, cnt_s]; simp [c]
    · rw [b_or, hx j, hF.2.2.2.2.2 i (by omega) j, cnt_s]
      cases te t i j <;> simp [c]
theorem l_heap6 {F : St} {t : TV} {x1 : Int32} {Q : Int32 → St → Prop} {S0 : Nat → Bool} (hF : absF F t) (ht : okT t) (hQ : ∀ x, lc (te t) S0 (bt x) → Q x F) :
    ∀ (m k : Nat) (x2 : Int32), k + m = tn t → 1 ≤ k → prg (te t) (tn t) (k - 1) S0 (bt x2) → wp_X2_heapOf_6 x1 Q (m + 1) F x2 (nI k)
  | 0, k, x2, hk, h1, hp => by
    have hn := ht.1
    unfold wp_X2_heapOf_6
    have : k = tn t := by omega
    subst this
    rw [hF.1]
    exact br_t (nI_le (Nat.le_refl _) (by omega)) (hQ x2 (prg_lc (okTE ht) (by omega) hp))
  | m + 1, k, x2, hk, h1, hp => by
    have hn := ht.1
    unfold wp_X2_heapOf_6
    rw [hF.1]
    refine br_f (fun c => by rw [nI_leI (by omega) (by omega)] at c; omega) ⟨tn t + 1, l_heap20 hF ht (fun x hx => ?_) (tn t) 0 x2 (by omega) (fun j => by simp [cnt])⟩
    rw [nI_1]
    refine l_heap6 hF ht hQ m (k + 1) x (by omega) (by omega) ?_
    have e : bt x = nx (te t) (tn t) (bt x2) := funext hx
    rw [e, show k + 1 - 1 = k - 1 + 1 by omega]
    exact prg_s (okTE ht) hp (stp_nx (okTE ht) _)
theorem s_heapOf {F : St} {t : TV} {d : Nat} {Q : Int32 → St → Prop} (hF : absF F t) (ht : okT t) (hd : d < tn t) (hQ : ∀ x, lc (te t) (fun j => decide (j = d)) (bt x) → Q x F) : wp_X2_heapOf F (nI d) Q := by
  have hn := ht.1
  have e : bt (b1 d) = fun j => decide (j = d) := funext (fun j => b_b1 (by omega) j)
  refine ⟨tn t - 1 + 1, l_heap6 hF ht hQ (tn t - 1) 1 _ (by omega) (Nat.le_refl _) ?_⟩
  show prg (te t) (tn t) 0 _ (bt (b1 d))
  rw [e]
  exact prg_0 _ hd (by simp)
theorem l_heaps {F : St} {t : TV} {Q : Int32 → St → Prop} (hF : absF F t) (ht : okT t) (hQ : Q (nI (cnt (fun d => !US (te t) (tn t) d d) (tn t))) F) :
    ∀ (m i : Nat) (x : Int32), i + m = tn t → bt x = US (te t) (tn t) i → wp_X2_heaps_6 Q (m + 1) F x (nI (cnt (fun d => !US (te t) (tn t) d d) i)) (nI i)
  | 0, i, x, hi, hx => by
    have hn := ht.1
    unfold wp_X2_heaps_6
    have : i = tn t := by omega
    subst this
    rw [hF.1]
    exact br_t (nI_le (Nat.le_refl _) (by omega)) hQ
  | m + 1, i, x, hi, hx => by
    have hn := ht.1
    have ih := l_heaps hF ht hQ m (i + 1)
    unfold wp_X2_heaps_6
    rw [hF.1, nI_1 i]
    rw [cnt_s] at ih
    refine br_f (fun c => by rw [nI_leI (by omega) (by omega)] at c; omega) (s_hasBit (by omega) ?_)
    rw [hx]
    refine bb' (fun c => ?_) (fun c => s_heapOf hF ht (by omega) (fun y hy => ?_))
    · rw [c] at ih
      exact ih x (by omega) (by rw [hx, US_s, if_pos c])
    · rw [c] at ih
      rw [nI_1]
      refine ih _ (by omega) ?_
      rw [← US_cl hn (okTE ht) (by omega) c hy]
      funext j
      rw [b_or, hx]
theorem s_heaps {F : St} {t : TV} {Q : Int32 → St → Prop} (hF : absF F t) (ht : okT t) (hQ : Q (nI (cnt (fun d => !US (te t) (tn t) d d) (tn t))) F) : wp_X2_heaps F Q :=
  ⟨tn t + 1, l_heaps hF ht hQ (tn t) 0 0 (by omega) (funext (fun j => b_0 j))⟩
/-! the reference -/
theorem l7_h50 {Y : St} {t : TV} {K38 : St → Int32 → Int32 → Int32 → Int32 → Prop} {K6 : St → Int32 → Int32 → Int32 → Prop} {Q : Int32 → St → Prop} {S : Nat → Bool} {x1 x3 x4 : Int32} (hF : absF (flM Y) t) (ht : okT t) (hK : ∀ x, stp (te t) S (bt x) → K38 Y x1 x x3 (x4 + 1)) :
    ∀ (m i : Nat) (x2 : Int32), i + m = tn t → (∀ j, S j = true → bt x2 j = true) → (∀ T, clo (te t) T → (∀ j, S j = true → T j = true) → ∀ j, bt x2 j = true → T j = true) → (∀ q j, q < i → S q = true → te t q j = true → bt x2 j = true) → wp_X7_heaps_50 K38 K6 Q (m + 1) Y x1 x2 x3 x4 (nI i)
  | 0, i, x2, hi, h1, h2, h3 => by
    have hn := ht.1
    unfold wp_X7_heaps_50
    have : i = tn t := by omega
    subst this
    rw [show Y.1 5 = nI (tn t) from hF.1]
    exact br_t (nI_le (Nat.le_refl _) (by omega)) (hK x2 ⟨h1, h2, fun i j z w => h3 i j (ht.2.2.2.2.1 i j w).1 z w⟩)
  | m + 1, i, x2, hi, h1, h2, h3 => by
    have hn := ht.1
    have e4 : ∀ j, bt (Y.2 4 i) j = te t i j := hF.2.2.2.2.2 i (by omega)
    unfold wp_X7_heaps_50
    rw [show Y.1 5 = nI (tn t) from hF.1, nI_clamp (n := i) (by omega), nI_1 i, b_sel (by omega), or_zero]
    refine br_f (fun c => by rw [nI_leI (by omega) (by omega)] at c; omega) (bq (fun c => l7_h50 hF ht hK m (i + 1) x2 (by omega) h1 h2 (fun q j hq z w => ?_)) (fun c => ⟨vp_in_nI (by omega) (by omega), l7_h50 hF ht hK m (i + 1) _ (by omega) (fun j z => ?_) (fun T hT hz j w => ?_) (fun q j hq z w => ?_)⟩))
    · rcases Nat.lt_or_ge q i with g | g
      · exact h3 q j g z w
      · rw [show q = i by omega] at z; rw [h1 i z] at c; cases c
    · rw [b_or, h1 j z]; rfl
    · rw [b_or, Bool.or_eq_true, e4] at w
      rcases w with g | g
      · exact h2 T hT hz j g
      · exact hT i j (h2 T hT hz i c) g
    · rw [b_or, Bool.or_eq_true, e4]
      rcases Nat.lt_or_ge q i with g | g
      · exact Or.inl (h3 q j g z w)
      · rw [show q = i by omega] at w; exact Or.inr w
theorem l7_h38 {Y : St} {t : TV} {K6 : St → Int32 → Int32 → Int32 → Prop} {Q : Int32 → St → Prop} {S0 : Nat → Bool} {x1 x3 : Int32} (hF : absF (flM Y) t) (ht : okT t) (hK : ∀ x, lc (te t) S0 (bt x) → K6 Y x1 x (x3 + 1)) :
    ∀ (m k : Nat) (x2 : Int32), k + m = tn t → prg (te t) (tn t) k S0 (bt x2) → wp_X7_heaps_38 K6 Q (m + 1) Y x1 x2 x3 (nI k)
  | 0, k, x2, hk, hp => by
    have hn := ht.1
    unfold wp_X7_heaps_38
    have : k = tn t := by omega
    subst this
    rw [show Y.1 5 = nI (tn t) from hF.1]
    exact br_t (nI_le (Nat.le_refl _) (by omega)) (hK x2 (prg_lc (okTE ht) (by omega) hp))
  | m + 1, k, x2, hk, hp => by
    have hn := ht.1
    unfold wp_X7_heaps_38
    rw [show Y.1 5 = nI (tn t) from hF.1]
    refine br_f (fun c => by rw [nI_leI (by omega) (by omega)] at c; omega) ⟨tn t + 1, l7_h50 (S := bt x2) hF ht (fun x hx => ?_) (tn t) 0 x2 (by omega) (fun _ z => z) (fun _ _ z => z) (fun q j hq => by omega)⟩
    rw [nI_1]
    exact l7_h38 hF ht hK m (k + 1) x (by omega) (prg_s (okTE ht) hp hx)
theorem l7_heaps {Y : St} {t : TV} {Q : Int32 → St → Prop} (hF : absF (flM Y) t) (ht : okT t) (hQ : Q (nI (cnt (fun d => !US (te t) (tn t) d d) (tn t))) Y) :
    ∀ (m i : Nat) (x : Int32), i + m = tn t → bt x = US (te t) (tn t) i → wp_X7_heaps_6 Q (m + 1) Y (nI (cnt (fun d => !US (te t) (tn t) d d) i)) x (nI i)
  | 0, i, x, hi, hx => by
    have hn := ht.1
    unfold wp_X7_heaps_6
    have : i = tn t := by omega
    subst this
    rw [show Y.1 5 = nI (tn t) from hF.1]
    exact br_t (nI_le (Nat.le_refl _) (by omega)) hQ
  | m + 1, i, x, hi, hx => by
    have hn := ht.1
    have ih := l7_heaps hF ht hQ m (i + 1)
    have e1 : bt (x ||| b1 i) = fun j => US (te t) (tn t) i j || decide (j = i) := by
      funext j
      rw [b_or, hx, b_b1 (by omega)]
    unfold wp_X7_heaps_6
    rw [show Y.1 5 = nI (tn t) from hF.1, b_sel (by omega), hx]
    rw [cnt_s] at ih
    refine br_f (fun c => by rw [nI_leI (by omega) (by omega)] at c; omega) (bq (fun c => ⟨tn t + 1, l7_h38 (S0 := fun j => US (te t) (tn t) i j || decide (j = i)) hF ht (fun y hy => ?_) (tn t) 0 _ (by omega) ?_⟩) (fun c => ?_))
    · rw [c] at ih
      rw [nI_1, nI_1]
      exact ih y (by omega) (US_ref hn (okTE ht) (by omega) c hy)
    · show prg (te t) (tn t) 0 _ (bt (x ||| b1 i))
      rw [e1]
      exact prg_0 _ (i := i) (by omega) (by simp)
    · rw [c] at ih
      rw [nI_1]
      exact ih x (by omega) (by rw [hx, US_s, if_pos c])
theorem s7_heaps {Y : St} {t : TV} {Q : Int32 → St → Prop} (hF : absF (flM Y) t) (ht : okT t) (hQ : Q (nI (cnt (fun d => !US (te t) (tn t) d d) (tn t))) Y) : wp_X7_heaps Y Q :=
  ⟨tn t + 1, l7_heaps hF ht hQ (tn t) 0 0 (by omega) (funext (fun j => b_0 j))⟩
/-! 11 closed -/
theorem ls_closed : LS_11 Inv := by
  rintro X Y x ⟨G, hG, hX, hY⟩
  have ht := hG.1
  have hF := hX.1
  have hM := hY.1
  unfold wp_X6_closed
  by_cases c0 : x = 0
  · subst c0
    refine br_t rfl ?_
    rw [hF.2.1]
    refine s_pairsEnd hF ht ht.2.1 (fun M' S7 e7 => ?_)
    have hX' : absX S7 G := by rw [e7]; exact hX
    unfold wp_X7_closed wp_X7_isIn
    exact br_f (by decide) (br_f (by decide) (bn_t (by decide) (s7_closes0 hM ht (fun T f2 _ _ _ => bn_f rfl ⟨rfl, G, hG, hX', hY.cl hG f2⟩))))
  · refine br_f c0 ?_
    by_cases c1 : x = 1
    · subst c1
      refine br_t rfl ?_
      unfold wp_X3_roundsTillTheEnd
      refine s_settled hF ht (fun M' hM' S7 e7 => ?_)
      have hX' : absX S7 G := by rw [e7]; exact hX
      unfold wp_X7_closed wp_X7_isIn
      refine br_f (by decide) (br_f (by decide) (bn_t (by decide) (s7_closes0 hM ht (fun T f2 hr _ _ => bn_t (by decide) (bn_f rfl ⟨?_, G, hG, hX', hY.cl hG f2⟩)))))
      rw [hr, hM'.2.2.2.1]
    · refine br_f c1 ?_
      by_cases c2 : x = 2
      · subst c2
        refine br_t rfl (s_heaps hF ht (fun S7 e7 => ?_))
        have hX' : absX S7 G := by rw [e7]; exact hX
        unfold wp_X7_closed wp_X7_isIn
        exact br_f (by decide) (br_f (by decide) (bn_t (by decide) (s7_closes0 hM ht (fun T f2 _ _ _ => bn_t (by decide) (bn_t (by decide) (s7_heaps (t := gt G) (flM_frm f2 (by decide) (by decide) hM) ht ⟨rfl, G, hG, hX', hY.cl hG f2⟩))))))
      · refine br_f c2 (s_refuse (k := 2) rfl (by omega) hX (fun X2 g1 => ?_))
        have hno : wp_X7_no Y (-2) (fun r2 Y2 => (-2 : Int32) = r2 ∧ Inv X2 Y2) := s7_no (k := 2) rfl (by omega) hY (fun Y2 g2 => ⟨rfl, _, hG.rf 2, g1, g2⟩)
        unfold wp_X7_closed wp_X7_isIn
        by_cases d0 : x < 0
        · exact br_t d0 (bn_f rfl hno)
        · refine br_f d0 ?_
          by_cases d1 : (2 : Int32) < x
          · exact br_t d1 (bn_f rfl hno)
          · exfalso
            have d1' : x ≤ (2 : Int32) := by rw [Int32.lt_iff_toInt_lt] at d1; rw [Int32.le_iff_toInt_le]; omega
            obtain ⟨j, hj, ej⟩ : ∃ j, j ≤ 2 ∧ x = nI j := nI_of2 (n := 2) rfl d0 d1'
            rcases (show j = 0 ∨ j = 1 ∨ j = 2 by omega) with e | e | e <;> subst e
            · exact c0 ej
            · exact c1 ej
            · exact c2 ej
