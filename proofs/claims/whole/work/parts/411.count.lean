/-! 27 count -/
theorem nxt_or (x a b : Nat) : (nxt x a || nxt x b) = (nxt x b || nxt x a) := Bool.or_comm _ _
theorem ot_comm (t : TV) (x a b : Nat) : ot t x a b = ot t x b a := by unfold ot; exact Bool.and_comm _ _
theorem wil_comm (t : TV) (x a b : Nat) : wil t x a b = wil t x b a := by unfold wil; rw [ot_comm t x a b, nxt_or]
theorem brg_comm (t : TV) (x a b : Nat) : brg t x a b = brg t x b a := by
  unfold brg bw
  rw [wil_comm t x a b, Bool.and_comm (decide (x < a))]
  cases te t x a <;> cases te t x b <;> simp
theorem may_comm {t : TV} (ht : okT t) (a b : Nat) : may t a b = may t b a := by
  unfold may
  rw [ht.2.2.2.2.2 a b, csn_comm t a b, show cbr t a b = cbr t b a from cnt_congr (fun i _ => brg_comm t i a b)]
/-- pairs below n, counted from above and from below -/
def paT (f : Nat → Nat → Bool) (n : Nat) : Nat := smN (fun a => cnt (f a) a) n
def crN (f : Nat → Nat → Bool) (n a : Nat) : Nat := cnt (fun k => f a (a + 1 + k)) (n - (a + 1))
theorem smN_congr {f g : Nat → Nat} : ∀ {n : Nat}, (∀ i, i < n → f i = g i) → smN f n = smN g n
  | 0, _ => rfl
  | n + 1, h => by rw [smN_s, smN_s, smN_congr (fun i hi => h i (by omega)), h n (by omega)]
theorem smN_add (f g : Nat → Nat) : ∀ n, smN (fun i => f i + g i) n = smN f n + smN g n
  | 0 => rfl
  | n + 1 => by rw [smN_s, smN_s, smN_s, smN_add f g n]; omega
theorem smN_ind (f : Nat → Bool) : ∀ n, smN (fun i => if f i then 1 else 0) n = cnt f n
  | 0 => rfl
  | n + 1 => by rw [smN_s, cnt_s, smN_ind f n]
theorem crN_s (f : Nat → Nat → Bool) {n a : Nat} (h : a < n) : crN f (n + 1) a = crN f n a + (if f a n then 1 else 0) := by
  unfold crN
  rw [show n + 1 - (a + 1) = (n - (a + 1)) + 1 by omega, cnt_s]
  rw [show a + 1 + (n - (a + 1)) = n by omega]
theorem pa_two {f : Nat → Nat → Bool} (hf : ∀ a b, f a b = f b a) : ∀ n, smN (crN f n) n = paT f n
  | 0 => rfl
  | n + 1 => by
    have ih := pa_two hf n
    unfold paT at ih ⊢
    rw [smN_s, smN_s, ← ih]
    have e1 : smN (crN f (n + 1)) n = smN (fun a => crN f n a + (if f a n then 1 else 0)) n := smN_congr (fun a ha => crN_s f ha)
    have e2 : crN f (n + 1) n = 0 := by unfold crN; rw [show n + 1 - (n + 1) = 0 by omega]; rfl
    have e3 : smN (fun a => if f a n then 1 else 0) n = cnt (f n) n := by
      rw [smN_ind (fun a => f a n) n]; exact cnt_congr (fun i _ => hf i n)
    rw [e1, smN_add, e2, e3]
    omega
theorem paT_le (f : Nat → Nat → Bool) {n : Nat} (hn : n ≤ 8) : paT f n ≤ 64 := by
  have : ∀ m, m ≤ 8 → smN (fun a => cnt (f a) a) m ≤ m * 8 := by
    intro m
    induction m with
    | zero => intro _; simp [smN]
    | succ m ih =>
      intro hm
      have h1 := ih (by omega)
      have h2 := cnt_le (f m) m
      rw [smN_s, Nat.succ_mul]; omega
  have h1 := this n hn
  unfold paT; omega
theorem l_pa16 {F : St} {t : TV} {K : St → Int32 → Int32 → Prop} {Q : Int32 → St → Prop} (hF : absF F t) (ht : okT t) {a c : Nat} (ha : a < tn t) (hc : c < 1000) (h : K F (nI (c + cnt (fun k => may t a (a + 1 + k)) (tn t - (a + 1)))) (nI (a + 1))) :
    ∀ (m k : Nat), k + m = tn t - (a + 1) → wp_X2_pairsAllowed_16 K Q (m + 1) F (nI (c + cnt (fun k => may t a (a + 1 + k)) k)) (nI a) (nI (a + 1 + k))
  | 0, k, hk => by
    have hn := ht.1
    unfold wp_X2_pairsAllowed_16
    rw [hF.1, nI_1]
    have : k = tn t - (a + 1) := by omega
    subst this
    exact br_t (nI_le (by omega) (by omega)) h
  | m + 1, k, hk => by
    have hn := ht.1
    have ih := l_pa16 (K := K) (Q := Q) hF ht ha hc h m (k + 1) (by omega)
    unfold wp_X2_pairsAllowed_16
    rw [hF.1]
    refine br_f (fun z => by rw [nI_leI (by omega) (by omega)] at z; omega) (s_isAllowed hF ht ha (by omega) ?_)
    rw [nI_1, nI_1]
    rw [cnt_s] at ih
    refine bb (fun d => ?_) (fun d => ?_)
    · rw [if_neg (by rw [d]; decide), Nat.add_zero] at ih
      exact ih
    · rw [if_pos d, ← Nat.add_assoc] at ih
      exact ih
theorem smN_mono (f : Nat → Nat) {i : Nat} : ∀ {n : Nat}, i ≤ n → smN f i ≤ smN f n
  | 0, h => by have : i = 0 := by omega
               rw [this]; exact Nat.le_refl _
  | n + 1, h => by
    by_cases e : i = n + 1
    · rw [e]; exact Nat.le_refl _
    · have := smN_mono f (i := i) (n := n) (by omega)
      rw [smN_s]; omega
theorem l_pa4 {F : St} {t : TV} {Q : Int32 → St → Prop} (hF : absF F t) (ht : okT t) (h : Q (nI (paT (may t) (tn t))) F) :
    ∀ (m i : Nat), i + m = tn t → wp_X2_pairsAllowed_4 Q (m + 1) F (nI (smN (crN (may t) (tn t)) i)) (nI i)
  | 0, i, hi => by
    have hn := ht.1
    unfold wp_X2_pairsAllowed_4
    have : i = tn t := by omega
    subst this
    rw [hF.1]
    refine br_t (nI_le (Nat.le_refl _) (by omega)) ?_
    rw [pa_two (may_comm ht)]; exact h
  | m + 1, i, hi => by
    have hn := ht.1
    have ih := l_pa4 hF ht h m (i + 1) (by omega)
    have hb : smN (crN (may t) (tn t)) i ≤ 64 := by
      have h1 := smN_mono (crN (may t) (tn t)) (i := i) (n := tn t) (by omega)
      rw [pa_two (may_comm ht)] at h1
      have := paT_le (may t) hn
      omega
    unfold wp_X2_pairsAllowed_4
    rw [hF.1]
    refine br_f (fun z => by rw [nI_leI (by omega) (by omega)] at z; omega) ⟨tn t - (i + 1) + 1, ?_⟩
    have := l_pa16 (K := fun s0 v0 v1 => wp_X2_pairsAllowed_4 Q (m + 1) s0 v0 v1) (Q := Q) (c := smN (crN (may t) (tn t)) i) hF ht (show i < tn t by omega) (by omega) ih (tn t - (i + 1)) 0 (by omega)
    rw [show (nI i + (1 : Int32)) = nI (i + 1 + 0) from nI_1 i]
    exact this
theorem s_pairsAllowed {F : St} {t : TV} {Q : Int32 → St → Prop} (hF : absF F t) (ht : okT t) (h : Q (nI (paT (may t) (tn t))) F) : wp_X2_pairsAllowed F Q := ⟨_, l_pa4 hF ht h (tn t) 0 (by omega)⟩
theorem l7_c91 {Y : St} {t : TV} {K : St → Int32 → Int32 → Prop} {x1 : Int32} {Q : Int32 → St → Prop} (hF : absF (flM Y) t) (ht : okT t) {a c : Nat} (ha : a < tn t) (h : K Y (nI (c + cnt (may t a) a)) (nI (a + 1))) :
    ∀ (m k : Nat), k + m = a → wp_X7_count_91 K x1 Q (m + 1) Y (nI (c + cnt (may t a) k)) (nI a) (nI k)
  | 0, k, hk => by
    have hn := ht.1
    unfold wp_X7_count_91
    rw [nI_1]
    have : k = a := by omega
    subst this
    exact br_t (nI_le (Nat.le_refl _) (by omega)) h
  | m + 1, k, hk => by
    have hn := ht.1
    have ih := l7_c91 (K := K) (Q := Q) (x1 := x1) hF ht ha h m (k + 1) (by omega)
    unfold wp_X7_count_91
    refine br_f (fun z => by rw [nI_leI (by omega) (by omega)] at z; omega) (s7_mayDance hF ht ha (by omega) ?_)
    rw [nI_1, nI_1]
    rw [cnt_s] at ih
    refine bb (fun d => ?_) (fun d => ?_)
    · rw [if_neg (by rw [d]; decide), Nat.add_zero] at ih
      rw [show nI (c + cnt (may t a) k) + (0 : Int32) = nI (c + cnt (may t a) k) from nI_add _ 0]
      exact ih
    · rw [if_pos d, ← Nat.add_assoc] at ih
      exact ih
theorem l7_c80 {Y : St} {t : TV} {x1 : Int32} {Q : Int32 → St → Prop} (hF : absF (flM Y) t) (ht : okT t) (h : Q (nI (paT (may t) (tn t))) Y) :
    ∀ (m i : Nat), i + m = tn t → wp_X7_count_80 x1 Q (m + 1) Y (nI (paT (may t) i)) (nI i)
  | 0, i, hi => by
    have hn := ht.1
    unfold wp_X7_count_80
    have : i = tn t := by omega
    subst this
    rw [show Y.1 5 = nI (tn t) from hF.1]
    exact br_t (nI_le (Nat.le_refl _) (by omega)) h
  | m + 1, i, hi => by
    have hn := ht.1
    have ih := l7_c80 (x1 := x1) hF ht h m (i + 1) (by omega)
    unfold wp_X7_count_80
    rw [show Y.1 5 = nI (tn t) from hF.1]
    refine br_f (fun z => by rw [nI_leI (by omega) (by omega)] at z; omega) ⟨i + 1, ?_⟩
    exact l7_c91 (K := fun s0 v0 v1 => wp_X7_count_80 x1 Q (m + 1) s0 v0 v1) (Q := Q) (x1 := x1) (c := paT (may t) i) hF ht (show i < tn t by omega) ih i 0 (by omega)
def sumI (f : Nat → Int32) : Nat → Int32
  | 0 => 0
  | n + 1 => sumI f n + f n
theorem l_allB {F : St} {t : TV} {Q : Int32 → St → Prop} (hF : absF F t) (ht : okT t) (h : Q (sumI (tb t) (tn t)) F) : ∀ (m i : Nat), i + m = tn t → wp_X2_allBrought_4 Q (m + 1) F (sumI (tb t) i) (nI i)
  | 0, i, hi => by
    have hn := ht.1
    unfold wp_X2_allBrought_4
    have : i = tn t := by omega
    subst this
    rw [hF.1]
    exact br_t (nI_le (Nat.le_refl _) (by omega)) h
  | m + 1, i, hi => by
    have hn := ht.1
    unfold wp_X2_allBrought_4
    rw [hF.1]
    refine br_f (fun c => by rw [nI_leI (by omega) (by omega)] at c; omega) ⟨vp_in_nI (by omega) (by omega), ?_⟩
    rw [nI_clamp (by omega), nI_1, hF.2.2.2.2.1 i (by omega)]
    exact l_allB hF ht h m (i + 1) (by omega)
theorem l7_allB {Y : St} {t : TV} {x1 : Int32} {Q : Int32 → St → Prop} (hF : absF (flM Y) t) (ht : okT t) (h : Q (sumI (tb t) (tn t)) Y) : ∀ (m i : Nat), i + m = tn t → wp_X7_count_136 x1 Q (m + 1) Y (sumI (tb t) i) (nI i)
  | 0, i, hi => by
    have hn := ht.1
    unfold wp_X7_count_136
    have : i = tn t := by omega
    subst this
    rw [show Y.1 5 = nI (tn t) from hF.1]
    exact br_t (nI_le (Nat.le_refl _) (by omega)) h
  | m + 1, i, hi => by
    have hn := ht.1
    unfold wp_X7_count_136
    rw [show Y.1 5 = nI (tn t) from hF.1]
    refine br_f (fun c => by rw [nI_leI (by omega) (by omega)] at c; omega) ⟨vp_in_nI (by omega) (by omega), ?_⟩
    rw [nI_clamp (by omega), nI_1, show Y.2 3 i = tb t i from hF.2.2.2.2.1 i (by omega)]
    exact l7_allB hF ht h m (i + 1) (by omega)
theorem ls_count : LS_27 Inv := by
  rintro X Y x ⟨G, hG, hX, hY⟩
  obtain ⟨x1, x2, x3, x4, x5, x6, x7, x8⟩ := id hX
  obtain ⟨y1, y2, y3, y4, y5, y6, y7, y8⟩ := id hY
  have ht := hG.1
  have low22 : (∀ {P : Int32 → Prop}, P 0 → wp_X7_isIn x 11 16 P) → wp_X6_count_22 x (fun r X2 => wp_X7_count Y x (fun r2 Y2 => r = r2 ∧ Inv X2 Y2)) X := by
    intro hin
    unfold wp_X6_count_22
    by_cases c0 : x = 0
    · exact br_t c0 (hin (br_t rfl (br_t c0 ⟨x1.1.trans y1.1.symm, G, hG, hX, hY⟩)))
    refine br_f c0 ?_
    by_cases c1 : x = 1
    · refine br_t c1 (s_pairsDanced x1 ht (fun S6 e6 => ?_))
      obtain rfl : S6 = X := e6
      exact hin (br_t rfl (br_f c0 (br_t c1 (s7_pairsDanced y1 ht ⟨rfl, G, hG, hX, hY⟩))))
    refine br_f c1 ?_
    by_cases c2 : x = 2
    · refine br_t c2 (s_pairsAllowed x1 ht (fun S6 e6 => ?_))
      obtain rfl : S6 = X := e6
      exact hin (br_t rfl (br_f c0 (br_f c1 (br_t c2 ⟨_, l7_c80 y1 ht ⟨rfl, G, hG, hX, hY⟩ (tn (gt G)) 0 (by omega)⟩))))
    refine br_f c2 ?_
    by_cases c3 : x = 3
    · exact br_t c3 (hin (br_t rfl (br_f c0 (br_f c1 (br_f c2 (br_t c3 ⟨x1.2.1.trans y1.2.1.symm, G, hG, hX, hY⟩))))))
    refine br_f c3 ?_
    by_cases c4 : x = 4
    · refine br_t c4 ⟨_, l_allB x1 ht (fun S6 e6 => ?_) (tn (gt G)) 0 (by omega)⟩
      obtain rfl : S6 = X := e6
      exact hin (br_t rfl (br_f c0 (br_f c1 (br_f c2 (br_f c3 (br_t c4 ⟨_, l7_allB y1 ht ⟨rfl, G, hG, hX, hY⟩ (tn (gt G)) 0 (by omega)⟩))))))
    refine br_f c4 ?_
    by_cases c5 : x = 5
    · exact br_t c5 (hin (br_t rfl (br_f c0 (br_f c1 (br_f c2 (br_f c3 (br_f c4 (br_t c5 ⟨x4.trans y4.symm, G, hG, hX, hY⟩))))))))
    refine br_f c5 ?_
    by_cases c6 : x = 6
    · exact br_t c6 (hin (br_t rfl (br_f c0 (br_f c1 (br_f c2 (br_f c3 (br_f c4 (br_f c5 (br_t c6 ⟨x6.trans y6.symm, G, hG, hX, hY⟩)))))))))
    · exact br_f c6 (hin (br_t rfl (br_f c0 (br_f c1 (br_f c2 (br_f c3 (br_f c4 (br_f c5 (br_f c6 ⟨rfl, G, hG, hX, hY⟩)))))))))
  unfold wp_X6_count
  by_cases c11 : x < (11 : Int32)
  · exact br_t c11 (low22 (fun h => br_t c11 h))
  · refine br_f c11 ?_
    by_cases c16 : (16 : Int32) < x
    · exact br_t c16 (low22 (fun h => br_f c11 (br_t c16 h)))
    · have e11 : (11 : Int32).toInt = 11 := rfl
      have e16 : (16 : Int32).toInt = 16 := rfl
      have e0 : (0 : Int32).toInt = 0 := rfl
      obtain ⟨j, hj, ej⟩ : ∃ j, j ≤ 16 ∧ x = nI j := nI_of2 (M := 16) (n := 16) rfl (by rw [Int32.lt_iff_toInt_lt] at c11 ⊢; omega) (by rw [Int32.lt_iff_toInt_lt] at c16; rw [Int32.le_iff_toInt_le]; omega)
      have hj11 : 11 ≤ j := by
        rw [ej, show (11 : Int32) = nI 11 from rfl, nI_ltI (by omega) (by omega)] at c11
        omega
      have es : x - 10 = nI (j - 10) := by rw [ej]; exact pk_sub (b := 10) (by omega)
      refine br_f c16 ?_
      rw [es, nI_clamp (by omega)]
      refine ⟨vp_in_nI (by omega) (by omega), br_f c11 (br_f c16 (br_f (by decide) ?_))⟩
      rw [es, nI_clamp (by omega)]
      exact ⟨vp_in_nI (by omega) (by omega), (x8 _ (by omega)).trans (y8 _ (by omega)).symm, G, hG, hX, hY⟩
