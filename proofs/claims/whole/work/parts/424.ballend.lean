/-! ball, both -/
theorem let_tx {G : AS} (hG : okG G) : ∃ tx : Nat → Nat, ∀ i, i < gL G → tx i < 256 ∧ gx G i = nI (tx i) := by
  refine ⟨fun i => (gx G i).toNatClampNeg, fun i hi => ?_⟩
  obtain ⟨p, h1, h2⟩ := hG.2.2.2.2.1 i hi
  show (gx G i).toNatClampNeg < 256 ∧ gx G i = nI (gx G i).toNatClampNeg
  rw [h2, nI_clamp (by omega)]
  exact ⟨h1, rfl⟩
theorem WR_le {tx : Nat → Nat} {L p w : Nat} (h : WR tx L p w) : w ≤ p + 3 := by
  rcases h with ⟨g1, g2⟩ | ⟨g1, g2, g3, g4⟩ | ⟨g1, g2, g3, g4, g5, g6⟩ | ⟨g1, g2, g3, g4, g5, g6⟩ | ⟨g1, g2, g3, g4, g5, g6, g7, g8⟩ <;> omega
theorem ls_ball : LS_1 Inv := by
  rintro X Y ⟨G, hG, hX, hY⟩
  obtain ⟨x1, x2, x3, x4, x5, x6, x7, x8⟩ := id hX
  obtain ⟨y1, y2, y3, y4, y5, y6, y7, y8⟩ := id hY
  have ht := hG.1
  have hL := hG.2.2.1
  obtain ⟨tx, htx⟩ := let_tx hG
  have hG1 : okG (setL G 0 (gx G)) := ⟨hG.1, hG.2.1, Nat.zero_le _, hG.2.2.2.1, fun i hi => absurd hi (Nat.not_lt_zero i), hG.2.2.2.2.2⟩
  have hT : tx7 Y tx (gL G) := ⟨hL, y4, fun i hi => ⟨(htx i hi).1, (y5 i hi).trans (htx i hi).2⟩⟩
  have hY6 : ∀ S6, frm [12, 13, 14] [8, 9, 10, 11] Y S6 → S6.1 12 = 0 → absY S6 (setL G 0 (gx G)) := by
    intro S6 f e
    refine ⟨flM_frm f (by decide) (by decide) y1, (f.1 16 (by decide)).trans y2, fun z => absK_eq (hG.2.1 z).1 (y3 z) (fun q _ => by rw [f.2 15 (by decide)]), e, fun i hi => absurd hi (Nat.not_lt_zero i), (f.1 29 (by decide)).trans y6, fun i hi => ?_, fun i hi => ?_⟩
    · rw [f.2 27 (by decide)]; exact y7 i hi
    · rw [f.2 0 (by decide)]; exact y8 i hi
  unfold wp_X6_ball wp_X4_tellAll
  rw [x4]
  intro S1 e1
  have hE : txt S1.1 tx (gL G) := ⟨hL, fun i hi => ⟨(htx i hi).1, by rw [e1]; exact (x5 i hi).trans (htx i hi).2⟩⟩
  have hE0 : S1.1.1 0 = nI 0 := by rw [e1]; rfl
  have hX1 : ∀ (F md : St) (t' : TV), absF F t' → absX (xf (xl X (S1.1, md)) F) (setT (setL G 0 (gx G)) t') := by
    intro F md t' hF
    exact ⟨hF, x2, x3, hE0, fun i hi => absurd hi (Nat.not_lt_zero i), x6, x7, x8⟩
  have fp0 : ∀ T1, T1 = sI Y 13 (0 : Int32) → ∀ T3, T3 = sI T1 14 (0 : Int32) → fp7 Y tx 0 T3 := by
    intro T1 f1 T3 f3
    refine ⟨?_, ?_, ?_, fun j hj => by omega⟩
    · rw [f3, f1]
      exact ((frm.sI 13 _).mono (fun s z => by simp at z ⊢; omega) (fun s z => absurd z List.not_mem_nil)).tr ((frm.sI 14 _).mono (fun s z => by simp at z ⊢; omega) (fun s z => absurd z List.not_mem_nil))
    · rw [f3, sI_n _ _ (by decide), f1, sI_s]; rfl
    · rw [f3, sI_s]; rfl
  rcases dich tx (gL G) (gL G + 1) 0 (by show gL G - 0 < _; omega) (fun j hj => by omega) with ⟨k, w, hb⟩ | ⟨K, hg⟩
  · have hw := WR_le hb.2.2
    have hp := plc_ok hb.1
    refine s_fwl_bad hE hb (br_f (nI_pos (by omega)) (fun S5 e5 => ?_))
    have hX5 : absX S5 (setL G 0 (gx G)) := by rw [e5]; exact hX1 _ _ _ x1
    intro T1 f1 T3 f3
    exact ⟨_, b12_run hT hb.1 (fun S hS => b12_bad (n := 0) hT hS hb (fun S' g1 g2 => ⟨rfl, _, hG1, hX5, hY6 S' g1 g2⟩)) k 0 T3 (by omega) (fp0 T1 f1 T3 f3)⟩
  · have hp := plc_ok hg.2.1
    have hK : K ≤ 21 := by have := hg.2.2; omega
    have hK0 := hg.1
    refine s_fwl_good hE hg (br_t (by decide) (s_copyFrom ht x1 (fun u7 h7 S10 e10 => ?_)))
    rw [e10]
    have hx : ∀ i, i < gL G → tx i < 256 := fun i hi => (htx i hi).1
    rcases dich2 (fun j => okX tx (tvs tx (gt G) j) (plc tx j)) K with ⟨k, hkK, hk1, hk2⟩ | hk1
    · have hs := hg.2.1 k hkK
      have hc := okS_c hs
      refine ⟨_, l40_run hE ht (fun j hj => hg.2.1 j (by omega)) hk1 (fun F hF => l40_fail (n := 0) hE hF (okT_tvs ht (fun j hj => hg.2.1 j (by omega)) hk1) hs hk2 (fun F' S5 e5 => ?_)) k 0 u7 (by omega) h7⟩
      have hX5 : absX S5 (setL G 0 (gx G)) := by rw [e5]; exact hX1 _ _ _ x1
      intro T1 f1 T3 f3
      refine ⟨_, b12_run hT hg.2.1 (fun S hS => b12_good (n := 0) hT hS hg (fun S6 g1 g2 g3 g4 => ?_)) K 0 T3 (by omega) (fp0 T1 f1 T3 f3)⟩
      have hA6 := hY6 S6 g1 g2
      refine s_passesAllK (w := 1) (by omega) (fun Y1 fr1 hkk hq => ?_)
      have hr1 : recs tx K Y1 := g4.fr fr1 (by decide)
      have h14 : Y1.1 14 = nI K := (fr1.1 14 (by decide)).trans g3
      refine ⟨_, b86_run (n := 1) ht hK hx hr1 h14 (by omega) hg.2.1 hk1 (fun S hF hS => ?_) k 0 Y1 (by omega) (flM_frm fr1 (by decide) (by decide) hA6.1) frm.rf⟩
      unfold wp_X7_ball_86
      rw [hS.1 14 (by decide), h14]
      refine br_f (fun c => by rw [nI_leI (by omega) (by omega)] at c; omega) (s7_comes (L := gL G) (K := K) hF (okT_tvs ht (fun j hj => hg.2.1 j (by omega)) hk1) hkK (by omega) (hr1.fr hS (by decide)) hs (hx _ (by omega)) (fun z => absurd z hk2) (fun _ S' g5 => br_t rfl (s_passesAllR (w := 1) (by omega) (fun Y2 f2 h2 => ⟨vp_in_nI (by omega) (by omega), ?_⟩))))
      have e9 : Y2.2 9 k = nI (plc tx k) := by
        rw [f2.2 9 (by decide), g5.2 9 (by decide), hS.2 9 (by decide)]
        exact (hr1 k hkK).2.1
      rw [nI_clamp (n := k) (by omega), e9]
      have fr2 : frm [5, 6, 17, 18] [1, 2, 3, 4, 15] S6 Y2 := (((fr1.mono (fun s z => by simp at z ⊢; omega) (fun s z => by simp at z ⊢; omega)).tr (hS.mono (fun s z => by simp at z ⊢; omega) (fun s z => by simp at z ⊢; omega))).tr (g5.mono (fun s z => by simp at z ⊢; omega) (fun s z => by simp at z ⊢; omega))).tr (f2.mono (fun s z => z) (fun s z => by simp at z ⊢; omega))
      have e15 : S'.2 15 = Y1.2 15 := (g5.2 15 (by decide)).trans (hS.2 15 (by decide))
      refine ⟨rfl, _, hG1, hX5, absY.of (t := gt G) hG1 hA6 (h2 _ ht.1 (by rw [flK_frm e15]; exact hkk _ ht.1 hA6.1)) fr2 (by decide) (by decide) (fun q hq' => ?_)⟩
      rw [f2.2 15 (by decide), e15]; exact hq q (by omega)
    · have htK : okT (tvs tx (gt G) K) := okT_tvs ht hg.2.1 hk1
      refine ⟨_, l40_run (n := 1) hE ht hg.2.1 hk1 (fun F hF => ?_) K 0 u7 (by omega) h7⟩
      unfold wp_X4_tellAll_40
      rw [hg.2.2]
      refine br_t (nI_le (Nat.le_refl _) (by omega)) (s_copyFrom htK hF (fun u14 h14' S17 e17 S5 e5 => ?_))
      have hX5 : absX S5 (setT (setL G 0 (gx G)) (tvs tx (gt G) K)) := by rw [e5, e17]; exact hX1 _ _ _ h14'
      intro T1 f1 T3 f3
      refine ⟨_, b12_run hT hg.2.1 (fun S hS => b12_good (n := 0) hT hS hg (fun S6 g1 g2 g3 g4 => ?_)) K 0 T3 (by omega) (fp0 T1 f1 T3 f3)⟩
      have hA6 := hY6 S6 g1 g2
      refine s_passesAllK (w := 1) (by omega) (fun Y1 fr1 hkk hq => ?_)
      have hr1 : recs tx K Y1 := g4.fr fr1 (by decide)
      have h14 : Y1.1 14 = nI K := (fr1.1 14 (by decide)).trans g3
      refine ⟨_, b86_run (n := 1) ht hK hx hr1 h14 (Nat.le_refl _) hg.2.1 hk1 (fun S hF hS => ?_) K 0 Y1 (by omega) (flM_frm fr1 (by decide) (by decide) hA6.1) frm.rf⟩
      unfold wp_X7_ball_86
      rw [hS.1 14 (by decide), h14]
      have fr2 : frm [5, 6, 17, 18] [1, 2, 3, 4, 15] S6 S := (fr1.mono (fun s z => by simp at z ⊢; omega) (fun s z => by simp at z ⊢; omega)).tr (hS.mono (fun s z => by simp at z ⊢; omega) (fun s z => by simp at z ⊢; omega))
      refine br_t (nI_le (Nat.le_refl _) (by omega)) ⟨rfl, setT (setL G 0 (gx G)) (tvs tx (gt G) K), ⟨htK, hG1.2⟩, hX5, absY.of hG1 hA6 hF fr2 (by decide) (by decide) (fun q hq' => ?_)⟩
      rw [hS.2 15 (by decide)]; exact hq q (by omega)
