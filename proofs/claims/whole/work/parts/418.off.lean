/-! the found pairs -/
theorem pl_len {g h : Nat → Bool} (hs : ∀ p, g p = true → h p = true) : ∀ (m i : Nat), (pl g i m).length ≤ (pl h i m).length
  | 0, _ => Nat.le_refl _
  | m + 1, i => by
    have ih := pl_len hs m (i + 1)
    rw [pl_s, pl_s]
    by_cases c : g i = true
    · rw [if_pos c, if_pos (hs i c), List.length_cons, List.length_cons]; omega
    · rw [if_neg c]
      split
      · rw [List.length_cons]; omega
      · exact ih
theorem gP_28 {n : Nat} (hn : n ≤ 8) (f : EE) : (rl (gP n f) 1).length ≤ 28 := by
  have h1 := pl_len (g := gP n f) (h := isP 8) (fun p z => by
    unfold gP at z
    rw [Bool.and_eq_true] at z
    have := isP_iff.mp z.1
    exact isP_iff.mpr ⟨this.1, by omega⟩) 99 1
  have h2 : (pl (isP 8) 1 99).length = 28 := by decide +kernel
  show (pl (gP n f) 1 99).length ≤ 28
  omega
theorem pl_pw (g : Nat → Bool) : ∀ (m i : Nat), (pl g i m).Pairwise (· < ·)
  | 0, _ => List.Pairwise.nil
  | m + 1, i => by
    rw [pl_s]
    split
    · exact List.pairwise_cons.mpr ⟨fun q hq => by have := pl_mem _ _ hq; omega, pl_pw g m (i + 1)⟩
    · exact pl_pw g m (i + 1)
theorem drop_c {L : List Nat} {c p : Nat} {r : List Nat} (h : L.drop c = p :: r) : c < L.length ∧ L.getD c 0 = p ∧ L.drop (c + 1) = r := by
  have hc : c < L.length := by
    rcases Nat.lt_or_ge c L.length with q | q
    · exact q
    · rw [List.drop_eq_nil_of_le q] at h; cases h
  rw [List.drop_eq_getElem_cons hc] at h
  injection h with h1 h2
  refine ⟨hc, ?_, h2⟩
  rw [← h1, List.getD_eq_getElem?_getD, List.getElem?_eq_getElem hc]; rfl
theorem drop_d {L : List Nat} {c : Nat} (h : c < L.length) : L.drop c = L.getD c 0 :: L.drop (c + 1) := by
  rw [List.drop_eq_getElem_cons h, List.getD_eq_getElem?_getD, List.getElem?_eq_getElem h]; rfl
def fnd (T : St) (L : List Nat) (c : Nat) : Prop := T.1 25 = nI c ∧ ∀ i, i < c → T.2 23 i = nI (L.getD i 0 / 10) ∧ T.2 24 i = nI (L.getD i 0 % 10)
theorem l7_f19 {Y : St} {t : TV} {c : Bool} {f : EE} {a : Nat} {K : St → Int32 → Prop} {Q : St → Prop} {L : List Nat} (hF : absF (flM Y) t) (ht : okT t) (ha : a < tn t) (hf : ∀ a b, f a b = true ↔ te t a b = c) (hL : L.length ≤ 28)
    (hK : ∀ T k, frm [25] [23, 24] Y T → fnd T L k → k ≤ L.length → L.drop k = rl (gP (tn t) f) (10 * (a + 1) + (a + 1 + 1)) → K T (nI (a + 1))) :
    ∀ (m b k : Nat) (T : St), b + m = tn t → a < b → frm [25] [23, 24] Y T → fnd T L k → k ≤ L.length → L.drop k = rl (gP (tn t) f) (10 * a + b) → wp_X7_findPairs_19 K (b2i c) Q (m + 1) T (nI a) (nI b)
  | 0, b, k, T, hb, hab, hfr, hd, hk, hl => by
    have hn := ht.1
    have : b = tn t := by omega
    subst this
    unfold wp_X7_findPairs_19
    rw [show T.1 5 = nI (tn t) by rw [hfr.1 5 (by decide)]; exact hF.1, nI_1]
    rw [gP_row _ hn ha] at hl
    exact br_t (nI_le (Nat.le_refl _) (by omega)) (hK T k hfr hd hk hl)
  | m + 1, b, k, T, hb, hab, hfr, hd, hk, hl => by
    have hn := ht.1
    have q1 : (10 * a + b) / 10 = a := by omega
    have q2 : (10 * a + b) % 10 = b := by omega
    have hFT : absF (flM T) t := flM_frm hfr (by decide) (by decide) hF
    have hg : gP (tn t) f (10 * a + b) = f a b := by
      unfold gP
      rw [q1, q2, isP_iff.mpr ⟨by omega, by omega⟩, Bool.true_and]
    unfold wp_X7_findPairs_19
    rw [show T.1 5 = nI (tn t) by rw [hfr.1 5 (by decide)]; exact hF.1, nI_1 b]
    refine br_f (fun c => by rw [nI_leI (by omega) (by omega)] at c; omega) (s7_haveDanced hFT ht ha (by omega) ?_)
    by_cases e : te t a b = c
    · rw [rl_t (by omega) (by rw [hg]; exact (hf a b).mpr e)] at hl
      obtain ⟨d1, d2, d3⟩ := drop_c hl
      refine br_t (by rw [e]) ?_
      rw [hd.1, nI_clamp (n := k) (by omega)]
      refine ⟨vp_in_nI (by omega) (by omega), fun S1 e1 => ?_⟩
      rw [show S1.1 25 = nI k by rw [e1]; exact hd.1, nI_clamp (n := k) (by omega)]
      refine ⟨vp_in_nI (by omega) (by omega), fun S2 e2 S3 e3 => ?_⟩
      refine l7_f19 hF ht ha hf hL hK m (b + 1) (k + 1) S3 (by omega) (by omega) (hfr.tr ?_) ⟨?_, fun i hi => ?_⟩ d1 d3
      · rw [e3, e2, e1]
        exact (((frm.sA 23 _ _).mono (fun s z => absurd z List.not_mem_nil) (fun s z => by simp at z; simp [z])).tr ((frm.sA 24 _ _).mono (fun s z => absurd z List.not_mem_nil) (fun s z => by simp at z; simp [z]))).tr ((frm.sI 25 _).mono (fun s z => z) (fun s z => absurd z List.not_mem_nil))
      · rw [e3, sI_s, e2, sA_1, e1, sA_1, hd.1, nI_1]
      · rw [e3, sI_2, e2, sA_s, sA_n _ _ _ (by decide), e1, sA_s, sA_n _ _ _ (by decide)]
        by_cases w : i = k
        · rw [w, upd_s, upd_s, d2, q1, q2]; exact ⟨rfl, rfl⟩
        · rw [upd_n _ _ w, upd_n _ _ w]; exact hd.2 i (by omega)
    · have hf0 : f a b = false := by
        cases w : f a b
        · rfl
        · exact absurd ((hf a b).mp w) e
      rw [rl_f (by omega) (by rw [hg]; exact hf0)] at hl
      exact br_f (fun z => e (b2i_i.mp z)) (l7_f19 hF ht ha hf hL hK m (b + 1) k T (by omega) (by omega) hfr hd hk hl)
theorem l7_f7 {Y : St} {t : TV} {c : Bool} {f : EE} {Q : St → Prop} {L : List Nat} (hF : absF (flM Y) t) (ht : okT t) (hf : ∀ a b, f a b = true ↔ te t a b = c) (hL : L.length ≤ 28) (hQ : ∀ T, frm [25] [23, 24] Y T → fnd T L L.length → Q T) :
    ∀ (m a k : Nat) (T : St), a + m = tn t → frm [25] [23, 24] Y T → fnd T L k → k ≤ L.length → L.drop k = rl (gP (tn t) f) (10 * a + (a + 1)) → wp_X7_findPairs_7 (b2i c) Q (m + 1) T (nI a)
  | 0, a, k, T, ha, hfr, hd, hk, hl => by
    have hn := ht.1
    have : a = tn t := by omega
    subst this
    unfold wp_X7_findPairs_7
    rw [show T.1 5 = nI (tn t) by rw [hfr.1 5 (by decide)]; exact hF.1]
    rw [gP_end _ hn] at hl
    have e : k = L.length := by
      have := List.drop_eq_nil_iff.mp hl
      omega
    subst e
    exact br_t (nI_le (Nat.le_refl _) (by omega)) (hQ T hfr hd)
  | m + 1, a, k, T, ha, hfr, hd, hk, hl => by
    have hn := ht.1
    unfold wp_X7_findPairs_7
    rw [show T.1 5 = nI (tn t) by rw [hfr.1 5 (by decide)]; exact hF.1, show nI a + (1 : Int32) = nI (a + 1) from nI_1 a]
    exact br_f (fun c => by rw [nI_leI (by omega) (by omega)] at c; omega) ⟨tn t - (a + 1) + 1, l7_f19 hF ht (by omega) hf hL (fun T k h1 h2 h3 h4 => l7_f7 hF ht hf hL hQ m (a + 1) k T (by omega) h1 h2 h3 h4) _ (a + 1) k T (by omega) (by omega) hfr hd hk hl⟩
theorem s7_findPairs {Y : St} {t : TV} {c : Bool} {f : EE} {Q : St → Prop} (hF : absF (flM Y) t) (ht : okT t) (hf : ∀ a b, f a b = true ↔ te t a b = c) (hQ : ∀ T, frm [25] [23, 24] Y T → fnd T (rl (gP (tn t) f) 1) (rl (gP (tn t) f) 1).length → Q T) : wp_X7_findPairs Y (b2i c) Q := by
  intro S1 e1
  have f1 : frm [25] [23, 24] Y S1 := by rw [e1]; exact (frm.sI 25 _).mono (fun s z => z) (fun s z => absurd z List.not_mem_nil)
  exact ⟨tn t + 1, l7_f7 hF ht hf (gP_28 ht.1 f) hQ (tn t) 0 0 S1 (by omega) f1 ⟨by rw [e1, sI_s]; rfl, fun i hi => by omega⟩ (Nat.zero_le _) rfl⟩
/-! off -/
def nv (t : TV) (a b p q : Nat) : Bool := !fin (P0 t) (remE (remE (te t) (p / 10) (p % 10)) (q / 10) (q % 10)) a b
def a2 (v : Nat → Nat → Bool) : List Nat → Bool
  | [] => false
  | p :: l => l.any (v p) || a2 v l
theorem a2_c (v : Nat → Nat → Bool) (p : Nat) (l : List Nat) : a2 v (p :: l) = (l.any (v p) || a2 v l) := rfl
def oV (v : Nat → Nat → Bool) (L : List Nat) : Int32 := if L.any (fun p => v p p) then 1 else if a2 v L then 2 else -9
theorem s_nvW {M : Nat → St} {F : St} {t : TV} {a b p q : Nat} {Q : Int32 → (Nat → St) → St → Prop} (hF : absF F t) (ht : okT t) (ha : a < tn t) (hb : b < tn t) (hab : a < b) (hp : isP (tn t) p = true) (hq : isP (tn t) q = true) (hp1 : p < 100) (hq1 : q < 100) (h : ∀ M', Q (b2i (nv t a b p q)) M' F) : wp_X3_isNeverWithout M F (nI (10 * a + b)) (nI p) (nI q) Q := by
  have hn := ht.1
  have g1 := isP_iff.mp hp
  have g2 := isP_iff.mp hq
  unfold wp_X3_isNeverWithout
  refine s_beginE hF ht (fun S1 h1 M5 e5 => s_partPair (P := P0 t) (E := te t) (r := 0) (absE_up e5 h1) (okP0 ht) hp1 (Nat.lt_trans g1.1 g1.2) g1.2 (by omega) (fun S2 h2 M7 e7 => s_partPair (P := P0 t) (r := 0) (absE_up e7 h2) (okP0 ht) hq1 (Nat.lt_trans g2.1 g2.2) g2.2 (by omega) (fun S3 h3 M9 e9 => s_settle (P := P0 t) (r := 0) (absE_up e9 h3) (okP0 ht) (okE_rem (okE_rem (okTE ht) _ _) _ _) (fun T hT M11 e11 => ?_))))
  unfold wp_X6_lesserOf wp_X6_greaterOf
  rw [rem10 (show 10 * a + b < 100 by omega), div10 (show 10 * a + b < 100 by omega), show (10 * a + b) / 10 = a by omega, show (10 * a + b) % 10 = b by omega]
  refine s_hdE (absE_up e11 hT) (okP0 ht) ha (by omega) (fun M13 e13 => ?_)
  have hh := h M13
  unfold nv at hh
  exact bb' (fun c => by rw [c] at hh; exact hh) (fun c => by rw [c] at hh; exact hh)
theorem l_second {F : St} {t : TV} {a b p : Nat} {Q : Int32 → (Nat → St) → St → Prop} {V : Bool} (hF : absF F t) (ht : okT t) (ha : a < tn t) (hb : b < tn t) (hab : a < b) (hp : isP (tn t) p = true) (hp1 : p < 100) (hQ : ∀ M, Q (b2i V) M F) :
    ∀ (m q : Nat) (M : Nat → St), q + m = 68 → (rl (gP (tn t) (te t)) q).any (nv t a b p) = V → wp_X3_isNeverWithSecond_5 (nI (10 * a + b)) (nI p) Q (m + 1) M F (nI q)
  | 0, q, M, hq, hV => by
    have : q = 68 := by omega
    subst this
    unfold wp_X3_isNeverWithSecond_5
    rw [gP_68 _ ht.1] at hV
    have hV' : V = false := hV.symm
    have := hQ M
    rw [hV'] at this
    exact br_t (by decide) this
  | m + 1, q, M, hq, hV => by
    have hn := ht.1
    unfold wp_X3_isNeverWithSecond_5
    rw [nI_1]
    refine br_f (fun c => by rw [show (67 : Int32) = nI 67 from rfl, nI_ltI (by omega) (by omega)] at c; omega) (s_isDancedP hF ht (by omega) (bb (fun c => ?_) (fun c => ?_)))
    · rw [rl_f (by omega) c] at hV
      exact l_second hF ht ha hb hab hp hp1 hQ m (q + 1) M (by omega) hV
    · rw [rl_t (by omega) c, List.any_cons] at hV
      unfold gP at c
      rw [Bool.and_eq_true] at c
      refine s_nvW hF ht ha hb hab hp c.1 hp1 (by omega) (fun M' => bb (fun d => ?_) (fun d => ?_))
      · rw [d, Bool.false_or] at hV
        exact l_second hF ht ha hb hab hp hp1 hQ m (q + 1) M' (by omega) hV
      · have := hQ M'
        rw [← hV, d] at this
        exact this
theorem l_o63 {F : St} {t : TV} {a b : Nat} {x2 x3 : Int32} {Q : Int32 → (Nat → St) → St → Prop} {V : Int32} (hF : absF F t) (ht : okT t) (ha : a < tn t) (hb : b < tn t) (hab : a < b) (hQ : ∀ M, Q V M F) :
    ∀ (m p : Nat) (M : Nat → St), p + m = 68 → (if a2 (nv t a b) (rl (gP (tn t) (te t)) p) then (2 : Int32) else -9) = V → wp_X3_fewestWithout_63 x2 x3 Q (m + 1) M F (nI (10 * a + b)) (nI p)
  | 0, p, M, hp, hV => by
    have : p = 68 := by omega
    subst this
    unfold wp_X3_fewestWithout_63
    rw [gP_68 _ ht.1] at hV
    have hV' : (-9 : Int32) = V := hV
    exact br_t (by decide) (by rw [hV']; exact hQ M)
  | m + 1, p, M, hp, hV => by
    have hn := ht.1
    unfold wp_X3_fewestWithout_63
    rw [nI_1]
    refine br_f (fun c => by rw [show (67 : Int32) = nI 67 from rfl, nI_ltI (by omega) (by omega)] at c; omega) (s_isDancedP hF ht (by omega) (bb (fun c => ?_) (fun c => ?_)))
    · rw [rl_f (by omega) c] at hV
      exact l_o63 hF ht ha hb hab hQ m (p + 1) M (by omega) hV
    · rw [rl_t (by omega) c, a2_c] at hV
      unfold gP at c
      rw [Bool.and_eq_true] at c
      unfold wp_X3_isNeverWithSecond
      rw [show nI p + (1 : Int32) = nI (p + 1) from nI_1 p]
      refine ⟨68 - (p + 1) + 1, l_second (V := (rl (gP (tn t) (te t)) (p + 1)).any (nv t a b p)) hF ht ha hb hab c.1 (by omega) (fun M' => bb (fun d => ?_) (fun d => ?_)) _ (p + 1) M (by omega) rfl⟩
      · rw [d, Bool.false_or] at hV
        exact l_o63 hF ht ha hb hab hQ m (p + 1) M' (by omega) hV
      · rw [d, Bool.true_or, if_pos rfl] at hV
        rw [hV]; exact hQ M'
theorem l_o22 {F : St} {t : TV} {a b : Nat} {x2 x3 : Int32} {Q : Int32 → (Nat → St) → St → Prop} {V : Int32} (hF : absF F t) (ht : okT t) (ha : a < tn t) (hb : b < tn t) (hab : a < b) (hQ : ∀ M, Q V M F) :
    ∀ (m p : Nat) (M : Nat → St), p + m = 68 → (if (rl (gP (tn t) (te t)) p).any (fun p => nv t a b p p) then (1 : Int32) else if a2 (nv t a b) (rl (gP (tn t) (te t)) 1) then 2 else -9) = V → wp_X3_fewestWithout_22 x2 x3 Q (m + 1) M F (nI (10 * a + b)) (nI p)
  | 0, p, M, hp, hV => by
    have : p = 68 := by omega
    subst this
    unfold wp_X3_fewestWithout_22
    rw [gP_68 _ ht.1] at hV
    exact br_t (by decide) ⟨68, l_o63 hF ht ha hb hab hQ 67 1 M rfl hV⟩
  | m + 1, p, M, hp, hV => by
    have hn := ht.1
    unfold wp_X3_fewestWithout_22
    rw [nI_1]
    refine br_f (fun c => by rw [show (67 : Int32) = nI 67 from rfl, nI_ltI (by omega) (by omega)] at c; omega) (s_isDancedP hF ht (by omega) (bb (fun c => ?_) (fun c => ?_)))
    · rw [rl_f (by omega) c] at hV
      exact l_o22 hF ht ha hb hab hQ m (p + 1) M (by omega) hV
    · rw [rl_t (by omega) c, List.any_cons] at hV
      unfold gP at c
      rw [Bool.and_eq_true] at c
      refine s_nvW hF ht ha hb hab c.1 c.1 (by omega) (by omega) (fun M' => bb (fun d => ?_) (fun d => ?_))
      · rw [d, Bool.false_or] at hV
        exact l_o22 hF ht ha hb hab hQ m (p + 1) M' (by omega) hV
      · rw [d, Bool.true_or, if_pos rfl] at hV
        rw [hV]; exact hQ M'
/-! the reference -/
theorem s7_isNever {Y : St} {t : TV} {a b : Nat} {Q : Int32 → St → Prop} (hF : absF (flM Y) t) (ht : okT t) (ha : a < tn t) (hb : b < tn t) (hQ : ∀ T, absF (flM T) t → frm [22] [4, 19, 20, 21] Y T → Q (b2i (!fin (P0 t) (te t) a b)) T) : wp_X7_isNever Y (nI a) (nI b) Q := by
  have hn := ht.1
  unfold wp_X7_isNever
  refine s7_closes0 hF ht (fun T f2 _ hA _ => ⟨vp_in_nI (by omega) (by omega), ?_⟩)
  have hh := hQ T (flM_frm f2 (by decide) (by decide) hF) (f2.mono (fun s z => z) (fun s z => List.mem_cons_of_mem _ z))
  rw [nI_clamp (by omega), b_sel (by omega), hA a ha b]
  exact bb' (fun c => by rw [c] at hh; exact hh) (fun c => by rw [c] at hh; exact hh)
def go3 (v : Nat → Nat → Bool) : List Nat → Int32 → Int32
  | [], x => x
  | p :: l, x => if v p p then 1 else go3 v l (if x = 2 then 2 else if l.any (v p) then 2 else -9)
theorem go3_c (v : Nat → Nat → Bool) (p : Nat) (l : List Nat) (x : Int32) : go3 v (p :: l) x = if v p p then 1 else go3 v l (if x = 2 then 2 else if l.any (v p) then 2 else -9) := rfl
theorem go3_2 (v : Nat → Nat → Bool) : ∀ l, go3 v l 2 = if l.any (fun p => v p p) then 1 else 2
  | [] => rfl
  | p :: l => by
    rw [go3_c, List.any_cons, if_pos rfl, go3_2 v l]
    cases v p p <;> simp
theorem go3_9 (v : Nat → Nat → Bool) : ∀ l, go3 v l (-9) = oV v l
  | [] => rfl
  | p :: l => by
    have ih := go3_9 v l
    unfold oV at ih ⊢
    rw [go3_c, List.any_cons, a2_c, if_neg (show ¬ (-9 : Int32) = 2 by decide)]
    cases c : v p p
    · cases d : l.any (v p)
      · simp only [Bool.false_or, if_neg (show ¬ (false = true) by decide)]; exact ih
      · simp only [Bool.false_or, Bool.true_or, if_pos, if_neg (show ¬ (false = true) by decide)]; exact go3_2 v l
    · simp
theorem p_ne {n p q : Nat} (hp : isP n p = true) (hq : isP n q = true) (h : p ≠ q) : ((decide (q / 10 = p / 10) && decide (q % 10 = p % 10)) || (decide (q / 10 = p % 10) && decide (q % 10 = p / 10))) = false := by
  have g1 := isP_iff.mp hp
  have g2 := isP_iff.mp hq
  rw [Bool.eq_false_iff]
  simp only [ne_eq, Bool.or_eq_true, Bool.and_eq_true, decide_eq_true_eq]
  omega
theorem remE_idem (E : EE) (a b : Nat) : remE (remE E a b) a b = remE E a b := by
  funext i j
  unfold remE
  rw [Bool.and_assoc, Bool.and_self]
/-- the found ones are as they were -/
def fdd (Y T : St) : Prop := frm [22] [4, 19, 20, 21] Y T
theorem fnd_fr {Y T : St} {L : List Nat} {c : Nat} (h : fnd Y L c) (hf : fdd Y T) : fnd T L c := ⟨(hf.1 25 (by decide)).trans h.1, by rw [hf.2 23 (by decide), hf.2 24 (by decide)]; exact h.2⟩
theorem f4 {Y T : St} (h : frm [] [4] Y T) : fdd Y T := h.mono (fun s z => absurd z List.not_mem_nil) (fun s z => by simp at z; simp [z])
theorem l7_o86 {Y : St} {t : TV} {a b p i : Nat} {K : St → Int32 → Int32 → Prop} {Q : Int32 → St → Prop} {L : List Nat} {W : Int32} (ht : okT t) (ha : a < tn t) (hb : b < tn t) (hL : L.length ≤ 28) (hfd : fnd Y L L.length) (hm : ∀ q, q ∈ L → isP (tn t) q = true ∧ te t (q / 10) (q % 10) = true) (hi : i < L.length) (hp : L.getD i 0 = p) (hlt : ∀ k, i < k → k < L.length → L.getD k 0 ≠ p)
    (hmem : ∀ k, k < L.length → L.getD k 0 ∈ L)
    (hK : ∀ T, absF (flM T) t → fdd Y T → K T W (nI (i + 1))) :
    ∀ (m k : Nat) (T : St) (x3 : Int32), k + m = L.length → i < k → absF (flM T) (remT t (p / 10) (p % 10)) → fdd Y T → ((¬ x3 < 0 ∧ W = x3) ∨ (x3 = -9 ∧ W = if (L.drop k).any (nv t a b p) then 2 else -9)) → wp_X7_off_86 K (nI a) (nI b) Q (m + 1) T x3 (nI i) (nI k) := by
  have hn := ht.1
  have hpm := hm p (by rw [← hp]; exact hmem i hi)
  have hpP := isP_iff.mp hpm.1
  have hp10 : p / 10 < tn t := by omega
  have ht1 : okT (remT t (p / 10) (p % 10)) := okT_rem ht _ _
  have out : ∀ (T : St), absF (flM T) (remT t (p / 10) (p % 10)) → fdd Y T → wp_X7_off_152 K (nI a) (nI b) Q T W (nI i) := by
    intro T hF hf
    unfold wp_X7_off_152
    have hd := (fnd_fr hfd hf).2 i hi
    rw [nI_clamp (n := i) (by omega), hd.1, hd.2, hp, nI_1]
    refine ⟨vp_in_nI (by omega) (by omega), vp_in_nI (by omega) (by omega), s7_joins hF ht1 hp10 hpP.2 (by omega) (fun T2 h2 f2 => hK T2 ?_ (hf.tr (f4 f2)))⟩
    rw [addT_rem ht hpm.2] at h2; exact h2
  intro m
  induction m with
  | zero =>
    intro k T x3 hk hik hF hf hW
    have e : k = L.length := by omega
    subst e
    unfold wp_X7_off_86
    rw [show T.1 25 = nI L.length from (fnd_fr hfd hf).1]
    refine br_t (nI_le (Nat.le_refl _) (by omega)) ?_
    have eW : W = x3 := by
      rcases hW with ⟨_, w⟩ | ⟨w1, w2⟩
      · exact w
      · rw [w2, w1, List.drop_length]; rfl
    rw [← eW]
    exact out T hF hf
  | succ m ih =>
    intro k T x3 hk hik hF hf hW
    unfold wp_X7_off_86
    rw [show T.1 25 = nI L.length from (fnd_fr hfd hf).1]
    refine br_f (fun c => by rw [nI_leI (by omega) (by omega)] at c; omega) ?_
    rcases hW with ⟨w1, w2⟩ | ⟨w1, w2⟩
    · rw [← w2]
      refine br_t ?_ (out T hF hf)
      rw [w2, Int32.le_iff_toInt_le]; rw [Int32.lt_iff_toInt_lt] at w1; omega
    · refine br_f (by rw [w1]; decide) ?_
      have hkl : k < L.length := by omega
      have hd := (fnd_fr hfd hf).2 k hkl
      have hqm := hm _ (hmem k hkl)
      have hqne := hlt k hik hkl
      rw [drop_d hkl] at w2
      generalize L.getD k 0 = q at hd hqm hqne w2
      have hqP := isP_iff.mp hqm.1
      have hq10 : q / 10 < tn t := by omega
      have hteq : te (remT t (p / 10) (p % 10)) (q / 10) (q % 10) = true := by
        show (te t (q / 10) (q % 10) && !_) = true
        rw [hqm.2, p_ne hpm.1 hqm.1 (fun e => hqne e.symm)]; rfl
      rw [nI_clamp (n := k) (by omega), hd.1, hd.2]
      refine ⟨vp_in_nI (by omega) (by omega), vp_in_nI (by omega) (by omega), s7_parts hF ht1 hq10 hqP.2 (by omega) (fun T2 h2 f2 => s7_isNever h2 (okT_rem ht1 _ _) ha hb (fun T3 h3 f3 => ?_))⟩
      have hf3 : fdd Y T3 := (hf.tr (f4 f2)).tr f3
      have en : (!fin (P0 (remT (remT t (p / 10) (p % 10)) (q / 10) (q % 10))) (te (remT (remT t (p / 10) (p % 10)) (q / 10) (q % 10))) a b) = nv t a b p q := rfl
      rw [en]
      rw [List.any_cons] at w2
      have back : ∀ x, ((¬ x < 0 ∧ W = x) ∨ (x = -9 ∧ W = if (L.drop (k + 1)).any (nv t a b p) then 2 else -9)) → wp_X7_off_128 (fun s0 v0 v1 v2 => wp_X7_off_86 K (nI a) (nI b) Q (m + 1) s0 v0 v1 v2) K (nI a) (nI b) Q T3 x (nI i) (nI k) := by
        intro x hx
        unfold wp_X7_off_128
        rw [nI_clamp (n := k) (by omega), show T3.2 23 k = nI (q / 10) by rw [hf3.2 23 (by decide), ← hf.2 23 (by decide)]; exact hd.1, show T3.2 24 k = nI (q % 10) by rw [hf3.2 24 (by decide), ← hf.2 24 (by decide)]; exact hd.2, nI_1]
        refine ⟨vp_in_nI (by omega) (by omega), vp_in_nI (by omega) (by omega), s7_joins h3 (okT_rem ht1 _ _) hq10 hqP.2 (by omega) (fun T4 h4 f5 => ih (k + 1) T4 x (by omega) (by omega) ?_ (hf3.tr (f4 f5)) hx)⟩
        rw [addT_rem ht1 hteq] at h4; exact h4
      refine bb (fun c => ?_) (fun c => ?_)
      · rw [c, Bool.false_or] at w2
        exact back x3 (Or.inr ⟨w1, w2⟩)
      · rw [c, Bool.true_or, if_pos rfl] at w2
        exact back 2 (Or.inl ⟨by decide, w2⟩)
theorem l7_o37 {Y : St} {t : TV} {a b : Nat} {Q : Int32 → St → Prop} {L : List Nat} {V : Int32} (ht : okT t) (ha : a < tn t) (hb : b < tn t) (hL : L.length ≤ 28) (hfd : fnd Y L L.length) (hm : ∀ q, q ∈ L → isP (tn t) q = true ∧ te t (q / 10) (q % 10) = true) (hne : ∀ i k, i < k → k < L.length → L.getD k 0 ≠ L.getD i 0) (hmem : ∀ k, k < L.length → L.getD k 0 ∈ L)
    (hQ : ∀ T, absF (flM T) t → fdd Y T → Q V T) :
    ∀ (m i : Nat) (T : St) (x3 : Int32), i + m = L.length → absF (flM T) t → fdd Y T → (x3 = 1 ∧ V = 1 ∨ (x3 = 2 ∨ x3 = -9) ∧ go3 (nv t a b) (L.drop i) x3 = V) → wp_X7_off_37 (nI a) (nI b) Q (m + 1) T x3 (nI i) := by
  have hn := ht.1
  intro m
  induction m with
  | zero =>
    intro i T x3 hi hF hf hV
    have e : i = L.length := by omega
    subst e
    unfold wp_X7_off_37
    rw [show T.1 25 = nI L.length from (fnd_fr hfd hf).1]
    refine br_t (nI_le (Nat.le_refl _) (by omega)) ?_
    have eV : V = x3 := by
      rcases hV with ⟨w1, w2⟩ | ⟨_, w⟩
      · rw [w1, w2]
      · rw [List.drop_length] at w; exact w.symm
    rw [← eV]
    exact hQ T hF hf
  | succ m ih =>
    intro i T x3 hi hF hf hV
    have hil : i < L.length := by omega
    unfold wp_X7_off_37
    rw [show T.1 25 = nI L.length from (fnd_fr hfd hf).1]
    refine br_f (fun c => by rw [nI_leI (by omega) (by omega)] at c; omega) ?_
    rcases hV with ⟨w1, w2⟩ | ⟨w1, w2⟩
    · refine br_t w1 ?_
      rw [w1, ← w2]; exact hQ T hF hf
    · refine br_f (fun z => by rcases w1 with w | w <;> rw [w] at z <;> exact absurd z (by decide)) ?_
      have hd := (fnd_fr hfd hf).2 i hil
      have hpm := hm _ (hmem i hil)
      rw [drop_d hil, go3_c] at w2
      have hne' : ∀ k, i < k → k < L.length → L.getD k 0 ≠ L.getD i 0 := fun k h1 h2 => hne i k h1 h2
      generalize hpe : L.getD i 0 = p at hd hpm w2 hne'
      have hpP := isP_iff.mp hpm.1
      have hp10 : p / 10 < tn t := by omega
      rw [nI_clamp (n := i) (by omega), hd.1, hd.2]
      refine ⟨vp_in_nI (by omega) (by omega), vp_in_nI (by omega) (by omega), s7_parts hF ht hp10 hpP.2 (by omega) (fun T2 h2 f2 => s7_isNever h2 (okT_rem ht _ _) ha hb (fun T3 h3 f3 => ?_))⟩
      have hf3 : fdd Y T3 := (hf.tr (f4 f2)).tr f3
      have en : (!fin (P0 (remT t (p / 10) (p % 10))) (te (remT t (p / 10) (p % 10))) a b) = nv t a b p p := by
        unfold nv
        rw [remE_idem]; rfl
      rw [en, show nI i + (1 : Int32) = nI (i + 1) from nI_1 i]
      refine bb (fun c => ⟨L.length - (i + 1) + 1, ?_⟩) (fun c => ⟨L.length - (i + 1) + 1, ?_⟩)
      · rw [if_neg (by rw [c]; decide)] at w2
        refine l7_o86 (W := if x3 = 2 then 2 else if (L.drop (i + 1)).any (nv t a b p) then 2 else -9) ht ha hb hL hfd hm hil hpe hne' hmem (fun T4 h4 f5 => ih (i + 1) T4 _ (by omega) h4 f5 (Or.inr ⟨?_, w2⟩)) _ (i + 1) T3 x3 (by omega) (by omega) h3 hf3 ?_
        · split
          · exact Or.inl rfl
          · split
            · exact Or.inl rfl
            · exact Or.inr rfl
        · rcases w1 with w | w
          · rw [w]; exact Or.inl ⟨by decide, rfl⟩
          · rw [w]; exact Or.inr ⟨rfl, rfl⟩
      · rw [if_pos c] at w2
        exact l7_o86 (W := 1) ht ha hb hL hfd hm hil hpe hne' hmem (fun T4 h4 f5 => ih (i + 1) T4 _ (by omega) h4 f5 (Or.inl ⟨rfl, w2.symm⟩)) _ (i + 1) T3 1 (by omega) (by omega) h3 hf3 (Or.inl ⟨by decide, rfl⟩)
theorem getD_mem {L : List Nat} {k : Nat} (h : k < L.length) : L.getD k 0 ∈ L := by
  rw [List.getD_eq_getElem?_getD, List.getElem?_eq_getElem h]
  exact List.getElem_mem h
theorem getD_lt {L : List Nat} (hL : L.Pairwise (· < ·)) {i k : Nat} (hik : i < k) (hk : k < L.length) : L.getD i 0 < L.getD k 0 := by
  rw [List.getD_eq_getElem?_getD, List.getD_eq_getElem?_getD, List.getElem?_eq_getElem hk, List.getElem?_eq_getElem (show i < L.length by omega)]
  exact List.pairwise_iff_getElem.mp hL i k (by omega) hk hik
theorem fin_comm {P : EP} (hP : okP P) {E : EE} (hE : okE P.1 E) (a b : Nat) : fin P E a b = fin P E b a := (hE.it hP 28).2 a b
theorem nv_comm {t : TV} (ht : okT t) (a b : Nat) : nv t a b = nv t b a := by
  funext p q
  unfold nv
  rw [fin_comm (okP0 ht) (okE_rem (okE_rem (okTE ht) _ _) _ _)]
theorem ls_off : LS_16 Inv := by
  rintro X Y x1 x2 ⟨G, hG, hX, hY⟩
  have ht := hG.1
  have hn := ht.1
  have hF := hX.1
  have hM := hY.1
  unfold wp_X6_off
  refine s_areTwo hF ht (fun a b ha hb hab ea eb S3 e3 => bn_t (by decide) ?_) (fun hno S3 e3 => bn_f rfl ?_)
  · obtain rfl : S3 = X := e3
    subst ea; subst eb
    unfold wp_X3_fewestWithout
    refine s_isEver hF ht ha hb (fun M' => bb' (fun c => ?_) (fun c S10 e10 => ?_))
    · unfold wp_X6_pairOf
      rw [nI_min (by omega) (by omega), nI_max (by omega) (by omega), show (10 : Int32) * nI (min a b) = nI (10 * min a b) from pk_mul 10 _, nI_add]
      have hnv : nv (gt G) (min a b) (max a b) = nv (gt G) a b := by
        rcases Nat.lt_or_ge a b with z | z
        · rw [show min a b = a by omega, show max a b = b by omega]
        · rw [show min a b = b by omega, show max a b = a by omega, nv_comm ht]
      refine ⟨68, l_o22 (V := oV (nv (gt G) a b) (rl (gP (tn (gt G)) (te (gt G))) 1)) hF ht (by omega) (by omega) (by omega) (fun M2 S10 e10 => ?_) 67 1 M' rfl (by rw [hnv]; rfl)⟩
      have hX' : absX S10 G := by rw [e10]; exact hX
      unfold wp_X7_off
      refine s7_areTwoN hM ht ha hb hab (bn_t (by decide) (s7_isNever hM ht ha hb (fun T hT f1 => ?_)))
      rw [c]
      refine br_t rfl (s7_findPairs (c := true) (f := te (gt G)) hT ht (fun _ _ => Iff.rfl) (fun T2 f2 hfd => ⟨_, l7_o37 (V := oV (nv (gt G) a b) (rl (gP (tn (gt G)) (te (gt G))) 1)) ht ha hb (gP_28 hn _) hfd (fun q hq => ?_) (fun i k h1 h2 => Nat.ne_of_gt (getD_lt (pl_pw _ _ _) h1 h2)) (fun k h => getD_mem h) (fun T3 h3 f3 => ⟨rfl, G, hG, hX', ?_⟩) (rl (gP (tn (gt G)) (te (gt G))) 1).length 0 T2 (-9) (by omega) (flM_frm f2 (by decide) (by decide) hT) frm.rf (Or.inr ⟨Or.inr rfl, go3_9 _ _⟩)⟩))
      · have := (rl_mem hq).1
        unfold gP at this
        rw [Bool.and_eq_true] at this
        exact this
      · have f4 : frm [22, 25] [4, 19, 20, 21, 23, 24] Y T3 := ((f1.mono (fun s z => by simp at z; simp [z]) (fun s z => by simp at z ⊢; omega)).tr (f2.mono (fun s z => by simp at z; simp [z]) (fun s z => by simp at z ⊢; omega))).tr (f3.mono (fun s z => by simp at z; simp [z]) (fun s z => by simp at z ⊢; omega))
        exact absY.fr hG hY h3 f4 (by decide) (by decide)
    · have hX' : absX S10 G := by rw [e10]; exact hX
      unfold wp_X7_off
      refine s7_areTwoN hM ht ha hb hab (bn_t (by decide) (s7_isNever hM ht ha hb (fun T hT f1 => ?_)))
      rw [c]
      exact br_f (by decide) ⟨rfl, G, hG, hX', absY.fr hG hY hT f1 (by decide) (by decide)⟩
  · obtain rfl : S3 = X := e3
    refine s_refuse (k := 1) rfl (by omega) hX (fun X2 g1 => ?_)
    unfold wp_X7_off
    exact s7_areTwo hM ht (fun a b ha hb hab ea eb => absurd ⟨a, b, ha, hb, hab, ea, eb⟩ hno) (fun _ => bn_f rfl (s7_no (k := 1) rfl (by omega) hY (fun Y2 g2 => ⟨rfl, _, hG.rf 1, g1, g2⟩)))
