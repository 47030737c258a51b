/-! who brings -/
def bw (t : TV) (x a b : Nat) : Bool := te t x a && (te t x b && wil t x a b)
def brg (t : TV) (x a b : Nat) : Bool := bw t x a b && (!decide (tl t = 2) || (decide (x < a) && decide (x < b)))
def bmask (t : TV) (a b : Nat) : Int32 := mkI (fun x => brg t x a b) 8
theorem brg_lt {t : TV} (ht : okT t) {x a b : Nat} (h : brg t x a b = true) : x < tn t := by
  unfold brg bw at h
  simp only [Bool.and_eq_true] at h
  exact (ht.2.2.2.2.1 x a h.1.1).1
theorem brg_big {t : TV} (ht : okT t) {x a b : Nat} (hx : tn t ≤ x) : brg t x a b = false := by
  cases c : brg t x a b
  · rfl
  · have := brg_lt ht c; omega
theorem b_bmask (t : TV) (ht : okT t) (a b x : Nat) : bt (bmask t a b) x = brg t x a b := by
  unfold bmask
  rw [b_mkI _ _ 8 (by omega)]
  have hn := ht.1
  by_cases c : x < 8
  · simp [c]
  · rw [brg_big ht (by omega)]; simp
theorem bmask_n {t : TV} (ht : okT t) (a b : Nat) : bmask t a b = mkI (fun x => brg t x a b) (tn t) := mkI_more _ ht.1 (fun i h1 _ => brg_big ht h1)
theorem l_whoBring {F : St} {t : TV} {a b : Nat} {Q : Int32 → St → Prop} {z : Int32} (hF : absF F t) (ht : okT t) (ha : a < tn t) (hb : b < tn t) (hz : ∀ j, bt z j = (te t a j && te t b j)) {e : Nat} (he : e ≤ tn t) (hQ : Q (mkI (fun x => bw t x a b) e) F) :
    ∀ (m i : Nat), i + m = e → wp_X2_whoBring_42 (nI a) (nI b) Q (m + 1) F z (nI e) (mkI (fun x => bw t x a b) i) (nI i)
  | 0, i, hi => by
    have hn := ht.1
    unfold wp_X2_whoBring_42
    have : i = e := by omega
    subst this
    exact br_t (nI_le (Nat.le_refl _) (by omega)) hQ
  | m + 1, i, hi => by
    have hn := ht.1
    have ih := l_whoBring hF ht ha hb hz he hQ m (i + 1) (by omega)
    unfold wp_X2_whoBring_42
    refine br_f (fun c => by rw [nI_leI (by omega) (by omega)] at c; omega) (s_hasBit (by omega) ?_)
    have e1 : te t a i = te t i a := ht.2.2.2.2.2 a i
    have e2 : te t b i = te t i b := ht.2.2.2.2.2 b i
    rw [hz i, nI_1]
    refine bb (fun c => ?_) (fun c => s_isWilling hF ht (by omega) ha hb (bb (fun d => ?_) (fun d => ?_)))
    · rw [show mkI (fun x => bw t x a b) (i + 1) = mkI (fun x => bw t x a b) i from if_neg (by rw [e1, e2] at c; simp only [bw]; revert c; cases te t i a <;> cases te t i b <;> simp)] at ih
      exact ih
    · rw [show mkI (fun x => bw t x a b) (i + 1) = mkI (fun x => bw t x a b) i from if_neg (by simp [bw, d])] at ih
      exact ih
    · rw [show mkI (fun x => bw t x a b) (i + 1) = mkI (fun x => bw t x a b) i ||| b1 i from if_pos (by rw [e1, e2] at c; simp only [Bool.and_eq_true] at c; simp [bw, d, c.1, c.2])] at ih
      exact ih
theorem s_whoBring {F : St} {t : TV} {a b : Nat} {Q : Int32 → St → Prop} (hF : absF F t) (ht : okT t) (ha : a < tn t) (hb : b < tn t) (h : Q (bmask t a b) F) : wp_X2_whoBring F (nI a) (nI b) Q := by
  have hn := ht.1
  have hl := ht.2.1
  refine ⟨vp_in_nI (by omega) (by omega), vp_in_nI (by omega) (by omega), ?_⟩
  rw [nI_clamp (n := a) (by omega), nI_clamp (n := b) (by omega)]
  intro z ez
  have hz : ∀ j, bt z j = (te t a j && te t b j) := by
    intro j
    rw [ez, b_and, hF.2.2.2.2.2 a ha j, hF.2.2.2.2.2 b hb j]
  rw [hF.2.1]
  by_cases c : tl t = 2
  · refine bn_f (by rw [c]; rfl) ?_
    have e1 : (if nI b < nI a then nI b else nI a) = nI (if b < a then b else a) := by
      by_cases d : b < a
      · rw [if_pos ((nI_ltI (by omega) (by omega)).mpr d), if_pos d]
      · rw [if_neg (fun z => d ((nI_ltI (by omega) (by omega)).mp z)), if_neg d]
    rw [e1]
    have hle : (if b < a then b else a) ≤ tn t := by split <;> omega
    refine ⟨_, l_whoBring hF ht ha hb hz hle ?_ (if b < a then b else a) 0 (by omega)⟩
    have e2 : mkI (fun x => bw t x a b) (if b < a then b else a) = bmask t a b := by
      unfold bmask
      rw [mkI_more (fun x => brg t x a b) (m := if b < a then b else a) (by omega) (fun i h1 h2 => ?_)]
      · refine mkI_congr (fun i hi => ?_)
        have h1 : i < a := by split at hi <;> omega
        have h2 : i < b := by split at hi <;> omega
        simp [brg, h1, h2]
      · have : ¬ (i < a ∧ i < b) := by split at h1 <;> omega
        by_cases q : i < a
        · have : ¬ i < b := fun z => this ⟨q, z⟩
          simp [brg, c, this]
        · simp [brg, c, q]
    rw [e2]
    exact h
  · refine bn_t (fun e => c ((nI_inj8 (b := 2) (by omega) (by omega)).mp e)) ?_
    rw [hF.1]
    refine ⟨_, l_whoBring hF ht ha hb hz (Nat.le_refl _) ?_ (tn t) 0 (by omega)⟩
    have e2 : mkI (fun x => bw t x a b) (tn t) = bmask t a b := by
      rw [bmask_n ht]
      exact mkI_congr (fun i hi => by simp [brg, c])
    rw [e2]
    exact h
/-! the reference -/
theorem s7_isBringing_77 {Y : St} {t : TV} {x a b : Nat} {Q : Int32 → St → Prop} (hF : absF (flM Y) t) (ht : okT t) (hx : x < tn t) (ha : a < tn t) (hb : b < tn t) (h : Q (b2i (wil t x a b)) Y) : wp_X7_isBringing_77 (nI x) (nI a) (nI b) Q Y (b2i (fr t x)) (b2i (ot t x a b)) := by
  have hn := ht.1
  have hk := ht.2.2.1 x
  have ek : Y.2 1 x = nI (tk t x) := hF.2.2.1 x hx
  have hvx : vp_in (nI x) 8 := vp_in_nI (by omega) (by omega)
  unfold wp_X7_isBringing_77
  rw [nI_clamp (n := x) (by omega), ek]
  refine ⟨hvx, ?_⟩
  rcases (show tk t x = 0 ∨ tk t x = 1 ∨ tk t x = 2 ∨ tk t x = 3 ∨ tk t x = 4 ∨ tk t x = 5 by omega) with e | e | e | e | e | e <;> rw [e]
  · exact br_f (by decide) (br_f (by decide) (br_f (by decide) (br_f (by decide) (by simpa [wil, e, b2i] using h))))
  · exact br_t rfl ⟨b2i_bz _, by simpa [wil, e] using h⟩
  · exact br_f (by decide) (br_t rfl ⟨b2i_bz _, by simpa [wil, e] using h⟩)
  · exact br_f (by decide) (br_f (by decide) (br_f (by decide) (br_f (by decide) (by simpa [wil, e, b2i] using h))))
  · refine br_f (by decide) (br_f (by decide) (br_t rfl (bb (fun c => by simpa [wil, e, c, b2i] using h) (fun c => ?_))))
    by_cases d1 : a = x + 1
    · exact br_t ((nI_sub1 (by omega) (by omega)).mpr d1) (by simpa [wil, e, c, nxt, d1, b2i] using h)
    · refine br_f (fun z => d1 ((nI_sub1 (by omega) (by omega)).mp z)) ?_
      by_cases d2 : x = a + 1
      · have q : nxt x a = true := by simp [nxt, d2]
        exact br_t ((nI_sub1 (by omega) (by omega)).mpr d2) (by simpa [wil, e, c, q, b2i] using h)
      · refine br_f (fun z => d2 ((nI_sub1 (by omega) (by omega)).mp z)) ?_
        by_cases d3 : b = x + 1
        · exact br_t ((nI_sub1 (by omega) (by omega)).mpr d3) (by simpa [wil, e, c, nxt, d3, b2i] using h)
        · refine br_f (fun z => d3 ((nI_sub1 (by omega) (by omega)).mp z)) ?_
          by_cases d4 : x = b + 1
          · have q : nxt x b = true := by simp [nxt, d4]
            exact bn_f ((nI_sub1 (by omega) (by omega)).mpr d4) (by simpa [wil, e, c, q, b2i] using h)
          · exact bn_t (fun z => d4 ((nI_sub1 (by omega) (by omega)).mp z)) (by simpa [wil, e, c, nxt, d1, d2, d3, d4, b2i] using h)
  · refine br_f (by decide) (br_f (by decide) (br_f (by decide) (br_t rfl (bb (fun c => by simpa [wil, e, c, b2i] using h) (fun c => ⟨hvx, s_bits (fun i hi => by rw [show bt (Y.2 4 x) i = te t x i from hF.2.2.2.2.2 x hx i]; exact ht.big (by omega)) ?_⟩)))))
    rw [show cnt (bt (Y.2 4 x)) 10 = cnt (te t x) 10 from cnt_te hF hx]
    have hc := cnt_le (te t x) 10
    by_cases d : 3 ≤ cnt (te t x) 10
    · exact br_f (fun z => by rw [show (3 : Int32) = nI 3 from rfl, nI_ltI (by omega) (by omega)] at z; omega) (by simpa [wil, e, c, d, b2i] using h)
    · exact br_t (by rw [show (3 : Int32) = nI 3 from rfl, nI_ltI (by omega) (by omega)]; omega) (by simpa [wil, e, c, d, b2i] using h)
theorem s7_isBringing {Y : St} {t : TV} {x a b : Nat} {Q : Int32 → St → Prop} (hF : absF (flM Y) t) (ht : okT t) (hx : x < tn t) (ha : a < tn t) (hb : b < tn t) (h : Q (b2i (bw t x a b)) Y) : wp_X7_isBringing Y (nI x) (nI a) (nI b) Q := by
  have hn := ht.1
  have hg := ht.2.2.2.1 x
  have hvx : vp_in (nI x) 8 := vp_in_nI (by omega) (by omega)
  unfold wp_X7_isBringing
  by_cases c1 : x = a
  · exact br_t (by rw [c1]) (by simpa [bw, c1, ht.self, b2i] using h)
  · refine br_f (fun z => c1 ((nI_inj8 (by omega) (by omega)).mp z)) ?_
    by_cases c2 : x = b
    · exact br_t (by rw [c2]) (by simpa [bw, c2, ht.self, b2i] using h)
    · refine br_f (fun z => c2 ((nI_inj8 (by omega) (by omega)).mp z)) (s7_haveDanced hF ht hx (by omega) (bb (fun d => by simpa [bw, d, b2i] using h) (fun d => s7_haveDanced hF ht hx (by omega) (bb' (fun f => ?_) (fun f => by simpa [bw, d, f, b2i] using h)))))
      have hw : Q (b2i (wil t x a b)) Y := by simpa [bw, d, f] using h
      have h47 := s7_isBringing_77 hF ht hx ha hb hw
      have h20 : wp_X7_isBringing_50 (nI x) (nI a) (nI b) Q Y (b2i (fr t x)) := by
        unfold wp_X7_isBringing_50
        rw [nI_clamp (n := x) (by omega), show Y.2 2 x = nI (tg t x) from hF.2.2.2.1 x hx]
        refine ⟨hvx, ?_⟩
        by_cases c1 : tg t x = a
        · refine br_t (by rw [c1]) ?_
          rw [show ot t x a b = false by simp [ot, c1]] at h47
          exact h47
        · refine br_f (fun e => c1 ((nI_inj8 (by omega) (by omega)).mp e)) ⟨hvx, ?_⟩
          by_cases c2 : tg t x = b
          · refine br_t (by rw [c2]) ?_
            rw [show ot t x a b = false by simp [ot, c2]] at h47
            exact h47
          · refine br_f (fun e => c2 ((nI_inj8 (by omega) (by omega)).mp e)) ?_
            rw [show ot t x a b = true by simp [ot, c1, c2]] at h47
            exact h47
      rw [nI_clamp (n := x) (by omega), show Y.2 2 x = nI (tg t x) from hF.2.2.2.1 x hx, show Y.2 3 x = tb t x from hF.2.2.2.2.1 x hx]
      refine ⟨hvx, hvx, ?_⟩
      by_cases c : nI (tg t x) ≤ tb t x
      · refine br_t c ?_
        rw [show fr t x = false by simp [fr, c]] at h20
        exact h20
      · refine br_f c ?_
        rw [show fr t x = true by simp [fr, c]] at h20
        exact h20
theorem or_zero (x : Int32) : x ||| (0 : Int32) = x := b_ext (fun i _ => by rw [b_or, b_0]; simp)
theorem l_bringersOf {Y : St} {t : TV} {a b : Nat} {Q : Int32 → St → Prop} (hF : absF (flM Y) t) (ht : okT t) (ha : a < tn t) (hb : b < tn t) (hQ : Q (mkI (fun x => brg t x a b) (tn t)) Y) :
    ∀ (m i : Nat), i + m = tn t → wp_X7_bringersOf_5 (nI a) (nI b) Q (m + 1) Y (mkI (fun x => brg t x a b) i) (nI i)
  | 0, i, hi => by
    have hn := ht.1
    unfold wp_X7_bringersOf_5
    have : i = tn t := by omega
    subst this
    rw [show Y.1 5 = nI (tn t) from hF.1]
    exact br_t (nI_le (Nat.le_refl _) (by omega)) hQ
  | m + 1, i, hi => by
    have hn := ht.1
    have hl := ht.2.1
    have ih := l_bringersOf hF ht ha hb hQ m (i + 1) (by omega)
    have k39 : ∀ (c : Bool), (brg t i a b = (c && bw t i a b)) → wp_X7_bringersOf_39 (fun s0 v0 v1 => wp_X7_bringersOf_5 (nI a) (nI b) Q (m + 1) s0 v0 v1) (nI a) (nI b) Q Y (mkI (fun x => brg t x a b) i) (nI i) (b2i c) := by
      intro c hc
      unfold wp_X7_bringersOf_39
      rw [nI_1, or_zero]
      refine bb (fun e => ?_) (fun e => s7_isBringing hF ht (by omega) ha hb (bb (fun d => ?_) (fun d => ?_)))
      · rw [show mkI (fun x => brg t x a b) (i + 1) = mkI (fun x => brg t x a b) i from if_neg (by show ¬ brg t i a b = true; rw [hc, e]; simp)] at ih
        exact ih
      · rw [show mkI (fun x => brg t x a b) (i + 1) = mkI (fun x => brg t x a b) i from if_neg (by show ¬ brg t i a b = true; rw [hc, d]; simp)] at ih
        exact ih
      · rw [show mkI (fun x => brg t x a b) (i + 1) = mkI (fun x => brg t x a b) i ||| b1 i from if_pos (by show brg t i a b = true; rw [hc, e, d]; rfl)] at ih
        exact ih
    unfold wp_X7_bringersOf_5
    rw [show Y.1 5 = nI (tn t) from hF.1, show Y.1 6 = nI (tl t) from hF.2.1]
    refine br_f (fun c => by rw [nI_leI (by omega) (by omega)] at c; omega) ?_
    by_cases c : tl t = 2
    · refine bn_f (by rw [c]; rfl) ?_
      by_cases d1 : a ≤ i
      · exact br_t (nI_le d1 (by omega)) (k39 false (by simp [brg, c, show ¬ i < a by omega]))
      · refine br_f (fun z => d1 ((nI_leI (by omega) (by omega)).mp z)) ?_
        by_cases d2 : b ≤ i
        · exact br_t (nI_le d2 (by omega)) (k39 false (by simp [brg, c, show ¬ i < b by omega]))
        · exact br_f (fun z => d2 ((nI_leI (by omega) (by omega)).mp z)) (k39 true (by simp [brg, c, show i < a by omega, show i < b by omega]))
    · exact bn_t (fun e => c ((nI_inj8 (b := 2) (by omega) (by omega)).mp e)) (k39 true (by simp [brg, c]))
theorem s7_bringersOf {Y : St} {t : TV} {a b : Nat} {Q : Int32 → St → Prop} (hF : absF (flM Y) t) (ht : okT t) (ha : a < tn t) (hb : b < tn t) (h : Q (bmask t a b) Y) : wp_X7_bringersOf Y (nI a) (nI b) Q :=
  ⟨_, l_bringersOf hF ht ha hb (by rw [← bmask_n ht]; exact h) (tn t) 0 (by omega)⟩
