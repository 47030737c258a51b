/-! 8 night -/
def nightT (t : TV) : TV := setB t (fun _ => 0)
def nightC (t : TV) : Nat := cnt (fun q => !decide (tb t q ≤ 0)) (tn t)
def ngt (k : Nat) (F S : St) (i : Nat) : Prop := S.1 = F.1 ∧ (∀ s, s ≠ k → S.2 s = F.2 s) ∧ (∀ q, q < i → S.2 k q = 0) ∧ ∀ q, i ≤ q → S.2 k q = F.2 k q
theorem ngt_s {k : Nat} {F S : St} {i : Nat} (h : ngt k F S i) : ngt k F (sA S k i 0) (i + 1) := by
  obtain ⟨h1, h2, h3, h4⟩ := h
  refine ⟨h1, fun s hs => by rw [sA_n _ _ _ hs]; exact h2 s hs, fun q hq => ?_, fun q hq => ?_⟩
  · rw [sA_s]
    by_cases c : q = i
    · rw [c, upd_s]
    · rw [upd_n _ _ c]; exact h3 q (by omega)
  · rw [sA_s, upd_n _ _ (by omega)]; exact h4 q (by omega)
theorem absF_ngt {F S : St} {t : TV} (hF : absF F t) {i : Nat} (hi : tn t ≤ i) (h : ngt 4 F S i) : absF S (nightT t) := by
  obtain ⟨h1, h2, h3, h4⟩ := h
  obtain ⟨g1, g2, g3, g4, g5, g6⟩ := hF
  refine ⟨by rw [h1]; exact g1, by rw [h1]; exact g2, fun j hj => ?_, fun j hj => ?_, fun j hj => h3 j ?_, fun j hj q => ?_⟩
  · rw [h2 2 (by decide)]; exact g3 j hj
  · rw [h2 3 (by decide)]; exact g4 j hj
  · have : j < tn t := hj
    omega
  · rw [h2 5 (by decide)]; exact g6 j hj q
theorem l_night {F : St} {t : TV} {Q : Int32 → St → Prop} (hF : absF F t) (ht : okT t) (h : ∀ S, absF S (nightT t) → Q (nI (nightC t)) S) : ∀ (m i : Nat) (S : St), i + m = tn t → ngt 4 F S i → wp_X2_forgetBrought_4 Q (m + 1) S (nI (cnt (fun q => !decide (tb t q ≤ 0)) i)) (nI i)
  | 0, i, S, hi, hS => by
    have hn := ht.1
    unfold wp_X2_forgetBrought_4
    have : i = tn t := by omega
    subst this
    rw [show S.1 0 = nI (tn t) by rw [hS.1]; exact hF.1]
    exact br_t (nI_le (Nat.le_refl _) (by omega)) (h S (absF_ngt hF (Nat.le_refl _) hS))
  | m + 1, i, S, hi, hS => by
    have hn := ht.1
    have hv : vp_in (nI i) 8 := vp_in_nI (by omega) (by omega)
    have ih := l_night hF ht h m (i + 1) (sA S 4 i 0) (by omega) (ngt_s hS)
    unfold wp_X2_forgetBrought_4
    rw [show S.1 0 = nI (tn t) by rw [hS.1]; exact hF.1, nI_clamp (n := i) (by omega), show S.2 4 i = tb t i by rw [hS.2.2.2 i (Nat.le_refl _)]; exact hF.2.2.2.2.1 i (by omega)]
    refine br_f (fun c => by rw [nI_leI (by omega) (by omega)] at c; omega) ⟨hv, ?_⟩
    rw [cnt_s] at ih
    by_cases c : tb t i ≤ 0
    · refine br_t c ?_
      unfold wp_X2_forgetBrought_24
      rw [nI_clamp (n := i) (by omega), nI_1]
      refine ⟨hv, fun S3 e3 => ?_⟩
      rw [e3]
      rw [if_neg (by simp [c]), Nat.add_zero] at ih
      exact ih
    · refine br_f c ?_
      unfold wp_X2_forgetBrought_24
      rw [nI_clamp (n := i) (by omega), nI_1, nI_1]
      refine ⟨hv, fun S3 e3 => ?_⟩
      rw [e3]
      rw [if_pos (by simp [c])] at ih
      exact ih
theorem flM_ngt {Y S : St} {i : Nat} (h : ngt 3 Y S i) : ngt 4 (flM Y) (flM S) i := by
  obtain ⟨h1, h2, h3, h4⟩ := h
  refine ⟨?_, fun s hs => ?_, h3, h4⟩
  · funext s
    show (if s = 0 then S.1 5 else S.1 6) = if s = 0 then Y.1 5 else Y.1 6
    rw [h1]
  · show S.2 (s - 1) = Y.2 (s - 1)
    exact h2 (s - 1) (by omega)
theorem l7_night {Y : St} {t : TV} {Q : Int32 → St → Prop} (hF : absF (flM Y) t) (ht : okT t) (h : ∀ S, absF (flM S) (nightT t) → frm [] [3] Y S → Q (nI (nightC t)) S) : ∀ (m i : Nat) (S : St), i + m = tn t → ngt 3 Y S i → wp_X7_night_4 Q (m + 1) S (nI (cnt (fun q => !decide (tb t q ≤ 0)) i)) (nI i)
  | 0, i, S, hi, hS => by
    have hn := ht.1
    unfold wp_X7_night_4
    have : i = tn t := by omega
    subst this
    rw [show S.1 5 = nI (tn t) by rw [hS.1]; exact hF.1]
    exact br_t (nI_le (Nat.le_refl _) (by omega)) (h S (absF_ngt hF (Nat.le_refl _) (flM_ngt hS)) ⟨fun s _ => by rw [hS.1], fun s hs => hS.2.1 s (fun e => hs (by simp [e]))⟩)
  | m + 1, i, S, hi, hS => by
    have hn := ht.1
    have hv : vp_in (nI i) 8 := vp_in_nI (by omega) (by omega)
    have ih := l7_night hF ht h m (i + 1) (sA S 3 i 0) (by omega) (ngt_s hS)
    unfold wp_X7_night_4
    rw [show S.1 5 = nI (tn t) by rw [hS.1]; exact hF.1, nI_clamp (n := i) (by omega), show S.2 3 i = tb t i by rw [hS.2.2.2 i (Nat.le_refl _)]; exact hF.2.2.2.2.1 i (by omega)]
    refine br_f (fun c => by rw [nI_leI (by omega) (by omega)] at c; omega) ⟨hv, ?_⟩
    rw [cnt_s] at ih
    by_cases c : tb t i ≤ 0
    · refine br_t c ?_
      unfold wp_X7_night_27
      rw [nI_clamp (n := i) (by omega), nI_1]
      refine ⟨hv, fun S3 e3 => ?_⟩
      rw [e3]
      rw [if_neg (by simp [c]), Nat.add_zero] at ih
      rw [show nI (cnt (fun q => !decide (tb t q ≤ 0)) i) + (0 : Int32) = nI (cnt (fun q => !decide (tb t q ≤ 0)) i) from nI_add _ 0]
      exact ih
    · refine br_f c ?_
      unfold wp_X7_night_27
      rw [nI_clamp (n := i) (by omega), nI_1, nI_1]
      refine ⟨hv, fun S3 e3 => ?_⟩
      rw [e3]
      rw [if_pos (by simp [c])] at ih
      exact ih
theorem ngt_0 (k : Nat) (F : St) : ngt k F F 0 := ⟨rfl, fun _ _ => rfl, fun q hq => by omega, fun _ _ => rfl⟩
theorem ls_night : LS_8 Inv := by
  rintro X Y ⟨G, hG, hX, hY⟩
  have ht := hG.1
  unfold wp_X6_night
  refine ⟨_, l_night hX.1 ht (fun S g1 S3 e3 => ?_) (tn (gt G)) 0 X.2.1 (by omega) (ngt_0 4 _)⟩
  refine ⟨_, l7_night hY.1 ht (fun T g2 fr => ?_) (tn (gt G)) 0 Y (by omega) (ngt_0 3 _)⟩
  refine ⟨rfl, setT G (nightT (gt G)), ⟨ht, hG.2⟩, ?_, hY.fr hG g2 fr (by decide) (by decide)⟩
  rw [e3]; exact hX.xf g1
/-! 19 row, 23 clear -/
theorem ls_row : LS_19 Inv := by
  rintro X Y x ⟨G, hG, hX, hY⟩
  obtain ⟨x1, x2, x3, x4, x5, x6, x7, x8⟩ := id hX
  obtain ⟨y1, y2, y3, y4, y5, y6, y7, y8⟩ := id hY
  have hR := hG.2.2.2.1
  have bound_t : ∀ {Q : Int32 → Prop}, (0 : Int32) ≤ x → x ≤ 99 → Q 0 → wp_X7_bound x 0 99 Q := fun h0 h1 h => br_t h0 (br_t h1 h)
  unfold wp_X6_row
  by_cases c0 : (0 : Int32) ≤ x
  · refine br_t c0 ?_
    by_cases c1 : (99 : Int32) < x
    · refine br_t c1 ?_
      refine s_refuse (k := 6) rfl (by omega) hX (fun X2 g1 => ?_)
      refine br_t c0 (br_f (fun z => ?_) (bn_t (by decide) (br_f (by decide) (s7_no (k := 6) rfl (by omega) hY (fun Y2 g2 => ⟨rfl, _, hG.rf 6, g1, g2⟩)))))
      rw [Int32.lt_iff_toInt_lt] at c1; rw [Int32.le_iff_toInt_le] at z; omega
    · have c1' : x ≤ (99 : Int32) := by rw [Int32.lt_iff_toInt_lt] at c1; rw [Int32.le_iff_toInt_le]; omega
      obtain ⟨j, hj, ej⟩ : ∃ j, j ≤ 99 ∧ x = nI j := nI_of2 (M := 99) (n := 99) rfl (by rw [Int32.le_iff_toInt_le] at c0; rw [Int32.lt_iff_toInt_lt]; omega) c1'
      refine br_f c1 ?_
      rw [x6]
      by_cases c2 : gR G < 6
      · refine br_t ((lit_lt (b := 6) (by omega) (by omega)).mpr c2) ?_
        unfold wp_X1_append
        rw [x6]
        refine br_f (fun z => by rw [show (6 : Int32) = nI 6 from rfl, lit_le (by omega) (by omega)] at z; omega) ⟨vp_in_nI c2 (by omega), fun S2 e2 S4 e4 S8 e8 => ?_⟩
        rw [nI_clamp (n := gR G) (by omega)] at e2
        have r4 : S4.1.1 0 = nI (gR G + 1) := by
          rw [e4]
          show (sI S2.1 0 (S2.1.1 0 + 1)).1 0 = _
          rw [sI_s, e2]
          show X.2.2.2.2.2.2.1.1 0 + 1 = _
          rw [x6, nI_1]
        rw [r4]
        have hX8 : absX S8 (setR G (gR G + 1) (fun i => if i = gR G then x else gw G i)) := by
          rw [e8]
          refine ⟨x1, x2, x3, x4, x5, r4, fun i hi => ?_, x8⟩
          show S4.1.2 1 i = if i = gR G then x else gw G i
          rw [e4, e2]
          show (sA X.2.2.2.2.2.2.1 1 (gR G) x).2 1 i = _
          rw [sA_s]
          have hi' : i < gR G + 1 := hi
          by_cases c : i = gR G
          · rw [c, upd_s, if_pos rfl]
          · rw [upd_n _ _ c, if_neg c, x7 i (by omega)]
        refine bound_t c0 c1' ?_
        refine bn_f rfl ?_
        rw [y6]
        refine bn_t (fun z => by have := (nI_eq (b := 6) (by omega) (by omega)).mp z; omega) ?_
        unfold wp_X7_row_24
        rw [y6]
        refine br_t rfl ⟨vp_in_nI c2 (by omega), fun T4 f4 T6 f6 => ?_⟩
        rw [nI_clamp (n := gR G) (by omega)] at f4
        have q6 : T6.1 29 = nI (gR G + 1) := by
          rw [f6, sI_s, f4, sA_1, y6, nI_1]
        rw [q6]
        refine ⟨rfl, setR G (gR G + 1) (fun i => if i = gR G then x else gw G i), ⟨hG.1, hG.2.1, hG.2.2.1, c2, hG.2.2.2.2.1, fun i hi => ?_⟩, hX8, ?_⟩
        · show ∃ c, c < 100 ∧ (if i = gR G then x else gw G i) = nI c
          have hi' : i < gR G + 1 := hi
          by_cases c : i = gR G
          · rw [if_pos c]; exact ⟨j, by omega, ej⟩
          · rw [if_neg c]; exact hG.2.2.2.2.2 i (by omega)
        · have fr : frm [29] [27] Y T6 := by
            rw [f6, f4]
            exact ((frm.sA 27 _ _).mono (fun s z => absurd z List.not_mem_nil) (fun s z => z)).tr ((frm.sI 29 _).mono (fun s z => z) (fun s z => absurd z List.not_mem_nil))
          refine ⟨flM_frm fr (by decide) (by decide) y1, (fr.1 16 (by decide)).trans y2, fun e => ?_, (fr.1 12 (by decide)).trans y4, fun i hi => ?_, q6, fun i hi => ?_, fun i hi => ?_⟩
          · exact absK_eq (hG.2.1 e).1 (y3 e) (fun q _ => by rw [fr.2 15 (by decide)])
          · rw [fr.2 7 (by decide)]; exact y5 i hi
          · show T6.2 27 i = if i = gR G then x else gw G i
            rw [f6, sI_2, f4, sA_s]
            have hi' : i < gR G + 1 := hi
            by_cases c : i = gR G
            · rw [c, upd_s, if_pos rfl]
            · rw [upd_n _ _ c, if_neg c, y7 i (by omega)]
          · rw [fr.2 0 (by decide)]; exact y8 i hi
      · have e64 : gR G = 6 := by omega
        refine br_f (fun z => by rw [show (6 : Int32) = nI 6 from rfl, lit_lt (by omega) (by omega)] at z; omega) ?_
        refine s_refuse (k := 6) rfl (by omega) hX (fun X2 g1 => ?_)
        refine bound_t c0 c1' (bn_f rfl ?_)
        rw [y6]
        exact bn_f (by rw [e64]; rfl) (br_f (by decide) (s7_no (k := 6) rfl (by omega) hY (fun Y2 g2 => ⟨rfl, _, hG.rf 6, g1, g2⟩)))
  · refine br_f c0 ?_
    refine s_refuse (k := 4) rfl (by omega) hX (fun X2 g1 => ?_)
    exact br_f c0 (bn_t (by decide) (br_f (by decide) (s7_no (k := 4) rfl (by omega) hY (fun Y2 g2 => ⟨rfl, _, hG.rf 4, g1, g2⟩))))
theorem ls_clear : LS_23 Inv := by
  rintro X Y ⟨G, hG, hX, hY⟩
  obtain ⟨x1, x2, x3, x4, x5, x6, x7, x8⟩ := id hX
  obtain ⟨y1, y2, y3, y4, y5, y6, y7, y8⟩ := id hY
  intro S1 e1 S3 e3 T1 f1
  have fr : frm [29] [] Y T1 := by rw [f1]; exact frm.sI 29 _
  refine ⟨x6.trans y6.symm, setR G 0 (gw G), ⟨hG.1, hG.2.1, hG.2.2.1, Nat.zero_le 6, hG.2.2.2.2.1, fun i hi => absurd hi (Nat.not_lt_zero i)⟩, ?_, ?_⟩
  · rw [e3, e1]
    exact ⟨x1, x2, x3, x4, x5, rfl, fun i hi => absurd hi (Nat.not_lt_zero i), x8⟩
  · refine ⟨flM_frm fr (by decide) (by decide) y1, (fr.1 16 (by decide)).trans y2, fun e => absK_eq (hG.2.1 e).1 (y3 e) (fun q _ => by rw [fr.2 15 (by decide)]), (fr.1 12 (by decide)).trans y4, fun i hi => ?_, by rw [f1, sI_s]; rfl, fun i hi => absurd hi (Nat.not_lt_zero i), fun i hi => ?_⟩
    · rw [fr.2 7 (by decide)]; exact y5 i hi
    · rw [fr.2 0 (by decide)]; exact y8 i hi
/-! copying a floor -/
def cp8 (S S1 : St) (i : Nat) : Prop := S.1 0 = S1.1 0 ∧ S.1 1 = S1.1 1 ∧ ∀ q, q < i → S.2 2 q = S1.2 2 q ∧ S.2 3 q = S1.2 3 q ∧ S.2 4 q = S1.2 4 q ∧ S.2 5 q = S1.2 5 q
theorem absF_cp8 {S S1 : St} {t : TV} (ht : okT t) (h : absF S1 t) (hc : cp8 S S1 8) : absF S t :=
  absF.eq8 ht.1 h hc.1 hc.2.1 (fun i hi => (hc.2.2 i hi).1) (fun i hi => (hc.2.2 i hi).2.1) (fun i hi => (hc.2.2 i hi).2.2.1) (fun i hi => (hc.2.2 i hi).2.2.2)
theorem l_copyFrom {S1 : St} {Q : St → St → Prop} (h : ∀ S, cp8 S S1 8 → Q S S1) : ∀ (m i : Nat) (S : St), i + m = 8 → cp8 S S1 i → wp_X2_copyFrom_18 Q (m + 1) S S1 (nI i)
  | 0, i, S, hi, hS => by
    unfold wp_X2_copyFrom_18
    have : i = 8 := by omega
    subst this
    exact br_t (by decide) (h S hS)
  | m + 1, i, S, hi, hS => by
    have hv : vp_in (nI i) 8 := vp_in_nI (by omega) (by omega)
    unfold wp_X2_copyFrom_18
    rw [nI_clamp (n := i) (by omega), nI_1]
    refine br_f (fun c => by rw [show (8 : Int32) = nI 8 from rfl, nI_leI (by omega) (by omega)] at c; omega) ⟨hv, hv, fun A1 e1 => ⟨hv, hv, fun A2 e2 => ⟨hv, hv, fun A3 e3 => ⟨hv, hv, fun A4 e4 => l_copyFrom h m (i + 1) A4 (by omega) ⟨?_, ?_, fun q hq => ?_⟩⟩⟩⟩⟩
    · rw [e4, e3, e2, e1]; exact hS.1
    · rw [e4, e3, e2, e1]; exact hS.2.1
    · rw [e4, e3, e2, e1]
      by_cases c : q = i
      · subst c
        refine ⟨?_, ?_, ?_, ?_⟩
        · rw [sA_n _ _ _ (by decide), sA_n _ _ _ (by decide), sA_n _ _ _ (by decide), sA_s, upd_s]
        · rw [sA_n _ _ _ (by decide), sA_n _ _ _ (by decide), sA_s, upd_s]
        · rw [sA_n _ _ _ (by decide), sA_s, upd_s]
        · rw [sA_s, upd_s]
      · obtain ⟨g1, g2, g3, g4⟩ := hS.2.2 q (by omega)
        refine ⟨?_, ?_, ?_, ?_⟩
        · rw [sA_n _ _ _ (by decide), sA_n _ _ _ (by decide), sA_n _ _ _ (by decide), sA_s, upd_n _ _ c]; exact g1
        · rw [sA_n _ _ _ (by decide), sA_n _ _ _ (by decide), sA_s, upd_n _ _ c, sA_n _ _ _ (by decide)]; exact g2
        · rw [sA_n _ _ _ (by decide), sA_s, upd_n _ _ c, sA_n _ _ _ (by decide), sA_n _ _ _ (by decide)]; exact g3
        · rw [sA_s, upd_n _ _ c, sA_n _ _ _ (by decide), sA_n _ _ _ (by decide), sA_n _ _ _ (by decide)]; exact g4
theorem s_copyFrom {S S1 : St} {t : TV} {Q : St → St → Prop} (ht : okT t) (hF : absF S1 t) (h : ∀ S', absF S' t → Q S' S1) : wp_X2_copyFrom S S1 Q := by
  intro A1 e1 A3 e3
  refine ⟨9, l_copyFrom (fun S' hc => h S' (absF_cp8 ht hF hc)) 8 0 A3 rfl ⟨?_, ?_, fun q hq => by omega⟩⟩
  · rw [e3, sI_n _ _ (by decide), e1, sI_s]
  · rw [e3, sI_s]
/-! 25 image, 26 restore -/
theorem ls_image : LS_25 Inv := by
  rintro X Y ⟨G, hG, hX, hY⟩
  obtain ⟨x1, x2, x3, x4, x5, x6, x7, x8⟩ := id hX
  obtain ⟨y1, y2, y3, y4, y5, y6, y7, y8⟩ := id hY
  have ht := hG.1
  unfold wp_X6_image
  refine s_copyFrom ht x1 (fun F' g1 S5 e5 S7 e7 => ?_)
  have hX7 : absX S7 (setM G (gt G)) := by
    rw [e7, e5]
    exact ⟨x1, rfl, fun _ => g1, x4, x5, x6, x7, fun i hi => x8 i hi⟩
  refine s_pairsDanced hX7.1 ht (fun S11 e11 => ?_)
  obtain rfl : S11 = S7 := e11
  intro T1 f1
  have fr1 : frm [16] [] Y T1 := by rw [f1]; exact frm.sI 16 _
  have hM1 : absF (flM T1) (gt G) := flM_frm fr1 (by decide) (by decide) y1
  refine s_passesAllK (w := 0) (by omega) (fun Y' fr2 hk hq => ?_)
  have hM2 : absF (flM Y') (gt G) := flM_frm fr2 (by decide) (by decide) hM1
  refine s7_pairsDanced hM2 ht ⟨rfl, setM G (gt G), ⟨ht, fun _ => ht, hG.2.2⟩, hX7, ?_⟩
  refine ⟨hM2, ?_, fun _ => hk _ ht.1 hM1, ?_, fun i hi => ?_, ?_, fun i hi => ?_, fun i hi => ?_⟩
  · rw [fr2.1 16 (by decide), f1, sI_s]; rfl
  · rw [fr2.1 12 (by decide), fr1.1 12 (by decide)]; exact y4
  · rw [fr2.2 7 (by decide), fr1.2 7 (by decide)]; exact y5 i hi
  · rw [fr2.1 29 (by decide), fr1.1 29 (by decide)]; exact y6
  · rw [fr2.2 27 (by decide), fr1.2 27 (by decide)]; exact y7 i hi
  · rw [fr2.2 0 (by decide), fr1.2 0 (by decide)]; exact y8 i hi
theorem ls_restore : LS_26 Inv := by
  rintro X Y ⟨G, hG, hX, hY⟩
  obtain ⟨x1, x2, x3, x4, x5, x6, x7, x8⟩ := id hX
  obtain ⟨y1, y2, y3, y4, y5, y6, y7, y8⟩ := id hY
  unfold wp_X6_restore
  rw [x2]
  refine bb' (fun c => ?_) (fun c => s_refuse (k := 3) rfl (by omega) hX (fun X2 g1 => ?_))
  · have ht := hG.2.1 c
    refine s_copyFrom ht (x3 c) (fun F' g1 S6 e6 => ?_)
    have hX6 : absX S6 (setT G (gi G)) := by
      rw [e6]
      exact ⟨g1, x2, x3, x4, x5, x6, x7, x8⟩
    refine s_pairsDanced hX6.1 ht (fun S10 e10 => ?_)
    obtain rfl : S10 = S6 := e10
    unfold wp_X7_restore
    rw [y2]
    refine bb' (fun _ => s_passesAllR (w := 0) (by omega) (fun Y' fr hr => ?_)) (fun d => by rw [c] at d; cases d)
    have hM := hr _ ht.1 (y3 c)
    exact s7_pairsDanced hM ht ⟨rfl, setT G (gi G), ⟨ht, hG.2⟩, hX6, hY.fr hG hM fr (by decide) (by decide)⟩
  · unfold wp_X7_restore
    rw [y2]
    exact bb' (fun d => by rw [c] at d; cases d) (fun _ => s7_no (k := 3) rfl (by omega) hY (fun Y2 g2 => ⟨rfl, _, hG.rf 3, g1, g2⟩))
