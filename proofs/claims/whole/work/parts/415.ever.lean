/-! what is asked about the end -/
theorem up_s (M : Nat → St) (j : Nat) (T : St) : va_up M j T j = T := if_pos rfl
theorem up_n (M : Nat → St) {j i : Nat} (T : St) (h : i ≠ j) : va_up M j T i = M i := if_neg h
theorem absE_up {M M0 : Nat → St} {j : Nat} {T : St} {P : EP} {E : EE} {r : Nat} (e : M = va_up M0 j T) (h : absE T P E r) : absE (M j) P E r := by rw [e, up_s]; exact h
theorem s_settled {M : Nat → St} {F : St} {t : TV} {Q : (Nat → St) → St → Prop} (hF : absF F t) (ht : okT t) (h : ∀ M', absE (M' 0) (P0 t) (fin (P0 t) (te t)) (rc (P0 t) (te t)) → Q M' F) : wp_X3_settled M F Q := by
  unfold wp_X3_settled
  refine s_beginE hF ht (fun S1 h1 M5 e5 => s_settle (P := P0 t) (E := te t) (r := 0) (absE_up e5 h1) (okP0 ht) (okTE ht) (fun T hT M9 e9 => h M9 ?_))
  rw [e9, up_s]
  rw [Nat.zero_add] at hT
  exact hT
theorem s_isEver {M : Nat → St} {F : St} {t : TV} {a b : Nat} {Q : Int32 → (Nat → St) → St → Prop} (hF : absF F t) (ht : okT t) (ha : a < tn t) (hb : b < tn t) (h : ∀ M', Q (b2i (fin (P0 t) (te t) a b)) M' F) : wp_X3_isEver M F (nI a) (nI b) Q := by
  have hn := ht.1
  unfold wp_X3_isEver
  exact s_settled hF ht (fun M' hM => s_hdE hM (okP0 ht) ha (by omega) (fun S7 _ => ⟨b2i_bz _, h S7⟩))
theorem l_roundOf {F : St} {P : EP} {E : EE} {a b : Nat} {Q : Int32 → (Nat → St) → St → Prop} (hP : okP P) (hE : okE P.1 E) (ha : a < P.1) (hb : b < P.1) (h : ∀ M', Q (ro P E 28 a b) M' F) :
    ∀ (m i : Nat) (M : Nat → St), i + m = 28 → absE (M 0) P (it P E i) i → (∀ j, j < i → it P E j a b = false) → wp_X3_roundOf_17 (nI a) (nI b) Q (m + 1) M F (nI i) := by
  intro m
  have hn := hP.1
  have found : ∀ i, i ≤ 28 → it P E i a b = true → (∀ j, j < i → it P E j a b = false) → ro P E 28 a b = nI i := by
    intro i hi c hj
    have c28 : it P E 28 a b = true := by have := it_mono c (28 - i); rwa [show i + (28 - i) = 28 by omega] at this
    unfold ro
    rw [if_pos c28, cnt_more _ hi (fun q h1 _ => ?_), cnt_all (fun q hq => by rw [hj q hq]; rfl)]
    have := it_mono c (q - i)
    rw [show i + (q - i) = q by omega] at this
    rw [this]; rfl
  have never : ∀ i, i ≤ 28 → it P E i a b = false → an P (it P E i) = false → ro P E 28 a b = -9 := by
    intro i hi c d
    unfold ro
    rw [it_stop' hP d hi, if_neg (by rw [c]; decide)]
  induction m with
  | zero =>
    intro i M hi hM hj
    have e : i = 28 := by omega
    subst e
    unfold wp_X3_roundOf_17
    refine br_f (by decide) (s_hdE hM hP ha (by omega) (fun S e => bb (fun c => ?_) (fun c => ?_)))
    · refine s_playRound (P := P) (E := it P E 28) (r := 28) (absE_up e hM) hP (hE.it hP 28) (fun T hT S2 e2 => ?_)
      rw [an_fin hP hE]
      refine bn_f rfl ?_
      rw [← never 28 (by omega) c (an_fin hP hE)]
      exact h _
    · rw [← found 28 (by omega) c hj]; exact h _
  | succ m ih =>
    intro i M hi hM hj
    unfold wp_X3_roundOf_17
    refine br_f (fun c => by rw [show (28 : Int32) = nI 28 from rfl, nI_ltI (by omega) (by omega)] at c; omega) (s_hdE hM hP ha (by omega) (fun S e => bb (fun c => ?_) (fun c => ?_)))
    · refine s_playRound (P := P) (E := it P E i) (r := i) (absE_up e hM) hP (hE.it hP i) (fun T hT S2 e2 => bb' (fun d => ?_) (fun d => ?_))
      · rw [nI_1]
        rw [d] at hT
        refine ih (i + 1) S2 (by omega) (absE_up e2 hT) (fun j hj' => ?_)
        rcases Nat.lt_or_ge j i with q | q
        · exact hj j q
        · rw [show j = i by omega]; exact c
      · rw [← never i (by omega) c d]; exact h _
    · rw [← found i (by omega) c hj]; exact h _
theorem s_roundOf {M : Nat → St} {F : St} {t : TV} {a b : Nat} {Q : Int32 → (Nat → St) → St → Prop} (hF : absF F t) (ht : okT t) (ha : a < tn t) (hb : b < tn t) (h : ∀ M', Q (ro (P0 t) (te t) 28 a b) M' F) : wp_X3_roundOf M F (nI a) (nI b) Q := by
  unfold wp_X3_roundOf
  exact s_beginE hF ht (fun S1 h1 M5 e5 => ⟨29, l_roundOf (okP0 ht) (okTE ht) ha hb h 28 0 M5 rfl (absE_up e5 h1) (fun j hj => by omega)⟩)
theorem s_pairsEnd {M : Nat → St} {F : St} {t : TV} {l : Nat} {Q : Int32 → (Nat → St) → St → Prop} (hF : absF F t) (ht : okT t) (hl : l ≤ 2) (h : ∀ M', Q (nI (pE (fin (PL t l) (te t)) (tn t))) M' F) : wp_X3_pairsInTheEnd M F (nI l) Q := by
  unfold wp_X3_pairsInTheEnd
  refine s_beginE hF ht (fun S1 h1 M5 e5 M7 e7 => s_settle (P := PL t l) (E := te t) (r := 0) ?_ (okPL ht hl) (okTE ht) (fun T hT M9 e9 => s_pairsE (P := PL t l) (E := fin (PL t l) (te t)) (absE_up e9 hT) (okPL ht hl) ((okTE ht).it (okPL ht hl) 28) (fun M11 _ => h _)))
  rw [e7, up_s, e5, up_s]
  obtain ⟨g1, g2, g3, g4, g5, g6⟩ := h1
  exact ⟨g1, rfl, g3, g4, g5, g6⟩
theorem s_pairsWith {M : Nat → St} {F : St} {t : TV} {p : Nat} {Q : Int32 → (Nat → St) → St → Prop} (hF : absF F t) (ht : okT t) (hp : p < 100) (ha : p / 10 < tn t) (hb : p % 10 < tn t) (hab : p / 10 ≠ p % 10) (h : ∀ M', Q (nI (pE (fin (P0 t) (addE (te t) (p / 10) (p % 10))) (tn t))) M' F) : wp_X3_pairsWith M F (nI p) Q := by
  unfold wp_X3_pairsWith
  have hA : okE (P0 t).1 (addE (te t) (p / 10) (p % 10)) := okE_add (okTE ht) ha hb hab
  refine s_beginE hF ht (fun S1 h1 M5 e5 => s_joinPair (P := P0 t) (E := te t) (r := 0) (absE_up e5 h1) (okP0 ht) hp ha hb hab (fun S2 h2 M7 e7 => s_settle (P := P0 t) (E := addE (te t) (p / 10) (p % 10)) (r := 0) (absE_up e7 h2) (okP0 ht) hA (fun T hT M9 e9 => s_pairsE (P := P0 t) (E := fin (P0 t) (addE (te t) (p / 10) (p % 10))) (absE_up e9 hT) (okP0 ht) (hA.it (okP0 ht) 28) (fun M11 _ => h _))))
theorem s_lost {M : Nat → St} {F : St} {t : TV} {d : Nat} {Q : Int32 → (Nat → St) → St → Prop} (hF : absF F t) (ht : okT t) (hd : d < tn t) (h : ∀ M', Q (nI (pE (fin (P0 t) (te t)) (tn t)) - nI (pE (fin (PW t d) (te t)) (tn t))) M' F) : wp_X3_lostWithoutBringer M F (nI d) Q := by
  have hn := ht.1
  unfold wp_X3_lostWithoutBringer
  refine s_settled hF ht (fun M2 h2 => s_pairsE h2 (okP0 ht) ((okTE ht).it (okP0 ht) 28) (fun M7 e7 => s_beginE hF ht (fun S1 h1 M13 e13 M15 e15 => s_settle (P := PW t d) (E := te t) (r := 0) ?_ (okPW ht d) (okTE ht) (fun T hT M19 e19 => s_pairsE (P := PW t d) (E := fin (PW t d) (te t)) (absE_up e19 hT) (okPW ht d) ((okTE ht).it (okPW ht d) 28) (fun M23 _ => h _)))))
  rw [e15, up_s, e13, up_s]
  obtain ⟨g1, g2, g3, g4, g5, g6⟩ := h1
  refine ⟨g1, g2, fun j hj => ?_, g4, g5, g6⟩
  rw [sI_s]
  show bt (S1.1 2 &&& (b1 d ^^^ (-1))) j = !decide (j = d)
  rw [b_andnot (by omega), g3 j hj]
  rfl
/-! the reference's floor with and without a pair -/
def remT (t : TV) (a b : Nat) : TV := setE t (remE (te t) a b)
theorem absF.part {F : St} {t : TV} (hF : absF F t) (ht : okT t) {a b : Nat} (ha : a < tn t) (hb : b < tn t) (hab : a ≠ b) :
    absF (sA (sA F 5 a (F.2 5 a &&& (b1 b ^^^ (-1)))) 5 b ((sA F 5 a (F.2 5 a &&& (b1 b ^^^ (-1)))).2 5 b &&& (b1 a ^^^ (-1)))) (remT t a b) := by
  have hn := ht.1
  obtain ⟨h1, h2, h3, h4, h5, h6⟩ := hF
  exact ⟨h1, h2, h3, h4, h5, ar.rem (k := 5) (E := te t) (n := tn t) h6 hn ha hb hab⟩
theorem s7_parts {Y : St} {t : TV} {a b : Nat} {Q : St → Prop} (hF : absF (flM Y) t) (ht : okT t) (ha : a < tn t) (hb : b < tn t) (hab : a ≠ b) (h : ∀ Y', absF (flM Y') (remT t a b) → frm [] [4] Y Y' → Q Y') : wp_X7_parts Y (nI a) (nI b) Q := by
  have hn := ht.1
  have hva : vp_in (nI a) 8 := vp_in_nI (by omega) (by omega)
  have hvb : vp_in (nI b) 8 := vp_in_nI (by omega) (by omega)
  unfold wp_X7_parts
  rw [nI_clamp (n := a) (by omega), nI_clamp (n := b) (by omega)]
  refine ⟨hva, hva, fun S1 e1 => ⟨hvb, hvb, fun S2 e2 => h S2 ?_ ?_⟩⟩
  · have := hF.part ht ha hb hab
    rw [e2, e1, flM_sA _ 3, flM_sA _ 3]
    exact this
  · rw [e2, e1]
    exact (frm.sA 4 _ _).tr (frm.sA 4 _ _)
theorem okT_rem {t : TV} (ht : okT t) (a b : Nat) : okT (remT t a b) := by
  obtain ⟨h1, h2, h3, h4, h5, h6⟩ := ht
  have := okE_rem (n := tn t) (E := te t) ⟨h5, h6⟩ a b
  exact ⟨h1, h2, h3, h4, this.1, this.2⟩
theorem rem_add {E : EE} {a b : Nat} (h1 : E a b = false) (h2 : E b a = false) : remE (addE E a b) a b = E := by
  funext i j
  unfold remE addE
  by_cases c1 : i = a ∧ j = b
  · rw [c1.1, c1.2, h1]; simp
  · by_cases c2 : i = b ∧ j = a
    · rw [c2.1, c2.2, h2]; simp
    · have : ((decide (i = a) && decide (j = b)) || (decide (i = b) && decide (j = a))) = false := by
        rw [Bool.eq_false_iff]
        simp only [ne_eq, Bool.or_eq_true, Bool.and_eq_true, decide_eq_true_eq]
        exact fun z => z.elim c1 c2
      rw [this]; simp
theorem add_rem {E : EE} {a b : Nat} (h1 : E a b = true) (h2 : E b a = true) : addE (remE E a b) a b = E := by
  funext i j
  unfold remE addE
  by_cases c1 : i = a ∧ j = b
  · rw [c1.1, c1.2, h1]; simp
  · by_cases c2 : i = b ∧ j = a
    · rw [c2.1, c2.2, h2]; simp
    · have : ((decide (i = a) && decide (j = b)) || (decide (i = b) && decide (j = a))) = false := by
        rw [Bool.eq_false_iff]
        simp only [ne_eq, Bool.or_eq_true, Bool.and_eq_true, decide_eq_true_eq]
        exact fun z => z.elim c1 c2
      show ((E i j && !((decide (i = a) && decide (j = b)) || (decide (i = b) && decide (j = a)))) || ((decide (i = a) && decide (j = b)) || (decide (i = b) && decide (j = a)))) = E i j
      rw [this]; simp
theorem remT_add {t : TV} (ht : okT t) {a b : Nat} (h : te t a b = false) : remT (addT t a b) a b = t := by
  have e : remE (addE (te t) a b) a b = te t := rem_add h (by rw [← ht.2.2.2.2.2]; exact h)
  show setE t (remE (addE (te t) a b) a b) = t
  rw [e]; rfl
theorem addT_rem {t : TV} (ht : okT t) {a b : Nat} (h : te t a b = true) : addT (remT t a b) a b = t := by
  have e : addE (remE (te t) a b) a b = te t := add_rem h (by rw [← ht.2.2.2.2.2]; exact h)
  show setE t (addE (remE (te t) a b) a b) = t
  rw [e]; rfl
theorem brd_no (n : Nat) : brd (-9) (fun _ => true) n := Or.inl ⟨rfl, fun _ _ => rfl⟩
/-- closes by the floor's own law -/
theorem s7_closes0 {Y : St} {t : TV} {Q : Int32 → St → Prop} (hF : absF (flM Y) t) (ht : okT t) (hQ : clQ Y (P0 t) (te t) Q) : wp_X7_closes Y (Y.1 6) (-9) Q :=
  s7_closes (P := P0 t) hF ht rfl rfl hF.2.1 (brd_no _) (okP0 ht) hQ
theorem s7_closesWith {Y : St} {t : TV} {a b : Nat} {Q : Int32 → St → Prop} (hF : absF (flM Y) t) (ht : okT t) (ha : a < tn t) (hb : b < tn t) (hab : a ≠ b) (hd : te t a b = false) (hQ : ∀ T, absF (flM T) t → frm [22] [4, 19, 20, 21] Y T → Q (nI (pE (fin (P0 t) (addE (te t) a b)) (tn t))) T) : wp_X7_closesWith Y (nI a) (nI b) Q := by
  unfold wp_X7_closesWith
  have htA := ht.add ha hb hab
  refine s7_joins hF ht ha hb hab (fun Y1 h1 f1 => s7_closes0 h1 htA (fun T f2 _ _ _ => s7_parts (t := addT t a b) (flM_frm f2 (by decide) (by decide) h1) htA ha hb hab (fun Y3 h3 f3 => hQ Y3 ?_ ?_)))
  · rw [remT_add ht hd] at h3; exact h3
  · exact ((f1.mono (fun s z => absurd z List.not_mem_nil) (fun s z => by simp at z; simp [z])).tr (f2.mono (fun s z => z) (fun s z => List.mem_cons_of_mem _ z))).tr (f3.mono (fun s z => absurd z List.not_mem_nil) (fun s z => by simp at z; simp [z]))
theorem absY.cl {Y Y' : St} {G : AS} (hG : okG G) (h : absY Y G) (hf : frm [22] [19, 20, 21] Y Y') : absY Y' G := absY.scr hG h hf (by decide) (by decide) (fun q _ => by rw [hf.2 15 (by decide)])
/-! 9 ever, 10 round, 12 opens, 17 worth, 18 byLaw -/
theorem ls_ever : LS_9 Inv := by
  rintro X Y x1 x2 ⟨G, hG, hX, hY⟩
  have ht := hG.1
  have hn := ht.1
  have hF := hX.1
  have hM := hY.1
  unfold wp_X6_ever
  refine s_areTwo hF ht (fun a b ha hb hab ea eb S3 e3 => bn_t (by decide) ?_) (fun hno S3 e3 => bn_f rfl ?_)
  · obtain rfl : S3 = X := e3
    subst ea; subst eb
    refine s_isEver hF ht ha hb (fun M' S10 e10 => ?_)
    have hX' : absX S10 G := by rw [e10]; exact hX
    have key : wp_X7_ever Y (nI a) (nI b) (fun r2 Y2 => b2i (fin (P0 (gt G)) (te (gt G)) a b) = r2 ∧ Inv S10 Y2) := by
      unfold wp_X7_ever
      refine s7_areTwoN hM ht ha hb hab (bn_t (by decide) (s7_closes0 hM ht (fun T f2 _ hA _ => ⟨vp_in_nI (by omega) (by omega), ?_, G, hG, hX', hY.cl hG f2⟩)))
      rw [nI_clamp (by omega), b_sel (by omega), hA a ha b]
    unfold wp_X6_asNumber
    exact bb (fun c => by rw [c] at key; exact key) (fun c => by rw [c] at key; exact key)
  · obtain rfl : S3 = X := e3
    refine s_refuse (k := 1) rfl (by omega) hX (fun X2 g1 => ?_)
    unfold wp_X7_ever
    exact s7_areTwo hM ht (fun a b ha hb hab ea eb => absurd ⟨a, b, ha, hb, hab, ea, eb⟩ hno) (fun _ => bn_f rfl (s7_no (k := 1) rfl (by omega) hY (fun Y2 g2 => ⟨rfl, _, hG.rf 1, g1, g2⟩)))
theorem ro_comm {P : EP} (hP : okP P) {E : EE} (hE : okE P.1 E) (k i j : Nat) : ro P E k i j = ro P E k j i := by
  unfold ro
  rw [(hE.it hP k).2 i j, cnt_congr (g := fun q => !it P E q j i) (fun q _ => by rw [(hE.it hP q).2 i j])]
theorem ls_round : LS_10 Inv := by
  rintro X Y x1 x2 ⟨G, hG, hX, hY⟩
  have ht := hG.1
  have hn := ht.1
  have hF := hX.1
  have hM := hY.1
  unfold wp_X6_round
  refine s_areTwo hF ht (fun a b ha hb hab ea eb S3 e3 => bn_t (by decide) ?_) (fun hno S3 e3 => bn_f rfl ?_)
  · obtain rfl : S3 = X := e3
    subst ea; subst eb
    refine s_roundOf hF ht ha hb (fun M' S10 e10 => ?_)
    have hX' : absX S10 G := by rw [e10]; exact hX
    unfold wp_X7_round
    refine s7_areTwoN hM ht ha hb hab (bn_t (by decide) (s7_closes0 hM ht (fun T f2 _ _ hr => ?_)))
    rw [show (8 : Int32) * nI a = nI (8 * a) from pk_mul 8 a, show (8 : Int32) * nI b = nI (8 * b) from pk_mul 8 b, nI_add, nI_add, nI_clamp (n := 8 * a + b) (by omega), nI_clamp (n := 8 * b + a) (by omega)]
    by_cases c : b ≤ a
    · refine br_t (nI_le c (by omega)) ⟨vp_in_nI (by omega) (by omega), ?_, G, hG, hX', hY.cl hG f2⟩
      rw [hr b a (by omega) ha, ro_comm (okP0 ht) (okTE ht)]
    · refine br_f (fun z => c ((nI_leI (by omega) (by omega)).mp z)) ⟨vp_in_nI (by omega) (by omega), ?_, G, hG, hX', hY.cl hG f2⟩
      rw [hr a b (by omega) hb]
  · obtain rfl : S3 = X := e3
    refine s_refuse (k := 1) rfl (by omega) hX (fun X2 g1 => ?_)
    unfold wp_X7_round
    exact s7_areTwo hM ht (fun a b ha hb hab ea eb => absurd ⟨a, b, ha, hb, hab, ea, eb⟩ hno) (fun _ => bn_f rfl (s7_no (k := 1) rfl (by omega) hY (fun Y2 g2 => ⟨rfl, _, hG.rf 1, g1, g2⟩)))
theorem addE_comm (E : EE) (a b : Nat) : addE E a b = addE E b a := by
  funext i j; unfold addE; rw [Bool.or_comm (decide (i = a) && decide (j = b))]
theorem ls_opens : LS_12 Inv := by
  rintro X Y x1 x2 ⟨G, hG, hX, hY⟩
  have ht := hG.1
  have hn := ht.1
  have hF := hX.1
  have hM := hY.1
  unfold wp_X6_opens
  refine s_areTwo hF ht (fun a b ha hb hab ea eb S3 e3 => bn_t (by decide) ?_) (fun hno S3 e3 => bn_f rfl ?_)
  · obtain rfl : S3 = X := e3
    subst ea; subst eb
    refine s_haveDanced hF ht ha (by omega) (fun S8 e8 => ?_)
    obtain rfl : S8 = S3 := e8
    refine bb (fun c => ?_) (fun c => ?_)
    · unfold wp_X3_opened
      refine s_settled hF ht (fun M2 h2 => s_pairsE h2 (okP0 ht) ((okTE ht).it (okP0 ht) 28) (fun M7 e7 => ?_))
      unfold wp_X6_pairOf
      rw [nI_min (by omega) (by omega), nI_max (by omega) (by omega), show (10 : Int32) * nI (min a b) = nI (10 * min a b) from pk_mul 10 _, nI_add]
      have q1 : (10 * min a b + max a b) / 10 = min a b := by omega
      have q2 : (10 * min a b + max a b) % 10 = max a b := by omega
      refine s_pairsWith hF ht (by omega) (by omega) (by omega) (by omega) (fun M11 S15 e15 => ?_)
      rw [q1, q2]
      have hX' : absX S15 G := by rw [e15]; exact hX
      unfold wp_X7_opens
      refine s7_areTwoN hM ht ha hb hab (bn_t (by decide) (s7_haveDanced hM ht ha (by omega) ?_))
      rw [c]
      refine br_t rfl (s7_closes0 hM ht (fun T f2 _ _ _ => s7_closesWith (t := gt G) (flM_frm f2 (by decide) (by decide) hM) ht ha hb hab c (fun T2 h3 f3 => ⟨?_, G, hG, hX', ?_⟩)))
      · rw [show addE (te (gt G)) (min a b) (max a b) = addE (te (gt G)) a b by
          rcases Nat.lt_or_ge a b with z | z
          · rw [show min a b = a by omega, show max a b = b by omega]
          · rw [show min a b = b by omega, show max a b = a by omega, addE_comm]]
      · exact absY.fr hG (hY.cl hG f2) h3 f3 (by decide) (by decide)
    · refine s_refuse (k := 3) rfl (by omega) hX (fun X2 g1 => ?_)
      unfold wp_X7_opens
      refine s7_areTwoN hM ht ha hb hab (bn_t (by decide) (s7_haveDanced hM ht ha (by omega) ?_))
      rw [c]
      exact br_f (by decide) (s7_no (k := 3) rfl (by omega) hY (fun Y2 g2 => ⟨rfl, _, hG.rf 3, g1, g2⟩))
  · obtain rfl : S3 = X := e3
    refine s_refuse (k := 1) rfl (by omega) hX (fun X2 g1 => ?_)
    unfold wp_X7_opens
    exact s7_areTwo hM ht (fun a b ha hb hab ea eb => absurd ⟨a, b, ha, hb, hab, ea, eb⟩ hno) (fun _ => bn_f rfl (s7_no (k := 1) rfl (by omega) hY (fun Y2 g2 => ⟨rfl, _, hG.rf 1, g1, g2⟩)))
theorem ls_worth : LS_17 Inv := by
  rintro X Y x1 ⟨G, hG, hX, hY⟩
  have ht := hG.1
  have hn := ht.1
  have hF := hX.1
  have hM := hY.1
  unfold wp_X6_worth
  refine s_isThere hF ht (fun a ha ea S3 e3 => bn_t (by decide) ?_) (fun hno S3 e3 => bn_f rfl ?_)
  · obtain rfl : S3 = X := e3
    subst ea
    refine s_lost hF ht ha (fun M' S10 e10 => ?_)
    have hX' : absX S10 G := by rw [e10]; exact hX
    unfold wp_X7_worth
    refine s7_isDancer hM ht (fun a' ha' ea' => bn_t (by decide) (s7_closes0 hM ht (fun T f2 _ _ _ => s7_closes (P := PW (gt G) a) (t := gt G) (flM_frm f2 (by decide) (by decide) hM) ht rfl rfl ((f2.1 6 (by decide)).trans hM.2.1) (Or.inr ⟨a, by omega, rfl, fun _ _ => rfl⟩) (okPW ht a) (fun T2 f3 _ _ _ => ⟨rfl, G, hG, hX', (hY.cl hG f2).cl hG f3⟩)))) (fun c => absurd rfl (c a ha))
  · obtain rfl : S3 = X := e3
    refine s_refuse (k := 1) rfl (by omega) hX (fun X2 g1 => ?_)
    unfold wp_X7_worth
    exact s7_isDancer hM ht (fun a ha ea => absurd ea (hno a ha)) (fun _ => bn_f rfl (s7_no (k := 1) rfl (by omega) hY (fun Y2 g2 => ⟨rfl, _, hG.rf 1, g1, g2⟩)))
theorem ls_byLaw : LS_18 Inv := by
  rintro X Y x ⟨G, hG, hX, hY⟩
  have ht := hG.1
  have hF := hX.1
  have hM := hY.1
  have hno : ∀ {X2 : CS}, absX X2 (rfG G 2) → wp_X7_no Y (-2) (fun r2 Y2 => (-2 : Int32) = r2 ∧ Inv X2 Y2) := fun g1 => s7_no (k := 2) rfl (by omega) hY (fun Y2 g2 => ⟨rfl, _, hG.rf 2, g1, g2⟩)
  unfold wp_X6_byLaw wp_X6_isLaw
  by_cases c0 : x < 0
  · refine br_t c0 (bn_f rfl (s_refuse (k := 2) rfl (by omega) hX (fun X2 g1 => ?_)))
    unfold wp_X7_byLaw wp_X7_isIn
    exact br_t c0 (br_t rfl (hno g1))
  · have c0' : (0 : Int32) ≤ x := by rw [Int32.le_iff_toInt_le]; rw [Int32.lt_iff_toInt_lt] at c0; omega
    refine br_f c0 ?_
    by_cases c1 : (2 : Int32) < x
    · refine br_t c1 (bn_f rfl (s_refuse (k := 2) rfl (by omega) hX (fun X2 g1 => ?_)))
      unfold wp_X7_byLaw wp_X7_isIn
      exact br_f c0 (br_t c1 (br_t rfl (hno g1)))
    · have c1' : x ≤ (2 : Int32) := by rw [Int32.lt_iff_toInt_lt] at c1; rw [Int32.le_iff_toInt_le]; omega
      obtain ⟨j, hj, ej⟩ : ∃ j, j ≤ 2 ∧ x = nI j := nI_of2 (n := 2) rfl (by rw [Int32.le_iff_toInt_le] at c0'; rw [Int32.lt_iff_toInt_lt]; omega) c1'
      refine br_f c1 (bn_t (by decide) ?_)
      subst ej
      refine s_pairsEnd hF ht hj (fun M' S7 e7 => ?_)
      have hX' : absX S7 G := by rw [e7]; exact hX
      unfold wp_X7_byLaw wp_X7_isIn
      exact br_f c0 (br_f c1 (br_f (by decide) (s7_closes (P := PL (gt G) j) hM ht rfl rfl rfl (brd_no _) (okPL ht hj) (fun T2 f3 _ _ _ => ⟨rfl, G, hG, hX', hY.cl hG f3⟩))))
