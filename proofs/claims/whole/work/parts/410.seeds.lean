/-! 24 seeds -/
def zN (z : Int32) : Int32 := z * (1103515245 : Int32) + (12345 : Int32)
def drN (z : Int32) (n : Nat) : Nat := z.toBitVec.toNat % 2 ^ 31 / 65536 % n
theorem dr_eq (z : Int32) {n : Nat} (h0 : 0 < n) (hn : n ≤ 8) : ((z &&& (2147483647 : Int32)) / (65536 : Int32)) - ((z &&& (2147483647 : Int32)) / (65536 : Int32)) / nI n * nI n = nI (drN z n) := by
  have hm : z.toBitVec.toNat % 2 ^ 31 < 2 ^ 31 := Nat.mod_lt _ (by decide)
  rw [pk_and z (m := 2147483647) 31 rfl, show (65536 : Int32) = nI 65536 from rfl, pk_div hm (by decide) (by decide), pk_rem (by omega) h0 (by omega)]
  rfl
theorem drN_lt (z : Int32) {n : Nat} (h0 : 0 < n) : drN z n < n := Nat.mod_lt _ h0
def sdT : Nat → TV → Int32 → TV
  | 0, t, _ => t
  | m + 1, t, z => sdT m (if okp t (drN (zN z) (tn t)) (drN (zN (zN z)) (tn t)) then nbT t (drN (zN z) (tn t)) (drN (zN (zN z)) (tn t)) else t) (zN (zN z))
theorem s_drawBelow {n : Nat} {z : Int32} {Q : Int32 → Prop} (h0 : 0 < n) (hn : n ≤ 8) (h : Q (nI (drN z n))) : wp_X1_drawBelow (nI n) z Q := by
  unfold wp_X1_drawBelow
  rw [dr_eq z h0 hn]
  exact br_t (by rw [show (1 : Int32) = nI 1 from rfl, nI_leI (by omega) (by omega)]; omega) ⟨nI_ne0 h0 (by omega), h⟩
theorem l_bySeed {E0 F : St} {N n0 : Nat} {x3 : Int32} {Q : Int32 → (St × (Nat → St)) → St → Prop} (hN : N ≤ 40) (h0 : 0 < n0) {t1 : TV} (ht1 : okT t1) (hQ : ∀ M', Q (nI (pdT t1 / 2)) (E0, M') F) :
    ∀ (m i : Nat) (M : Nat → St) (t : TV) (z : Int32), i + m = N → okT t → tn t = n0 → absF (M 0) t → sdT m t z = t1 → wp_X1_pairsBySeed_20 (nI N) x3 Q (m + 1) (E0, M) F z (nI i)
  | 0, i, M, t, z, hi, ht, hn0, hF, hs => by
    unfold wp_X1_pairsBySeed_20
    have : i = N := by omega
    subst this
    have e : t = t1 := hs
    subst e
    refine br_t (nI_le (Nat.le_refl _) (by omega)) (s_pairsDanced hF ht (fun S10 e10 => ?_))
    rw [e10]; exact hQ _
  | m + 1, i, M, t, z, hi, ht, hn0, hF, hs => by
    have hn := ht.1
    unfold wp_X1_pairsBySeed_20
    refine br_f (fun c => by rw [nI_leI (by omega) (by omega)] at c; omega) ?_
    unfold wp_X1_nextSeed
    rw [show ((E0, M).2 0).1 0 = nI (tn t) from hF.1]
    refine s_drawBelow (z := zN z) (by omega) hn (s_drawBelow (z := zN (zN z)) (by omega) hn ?_)
    have d1 := drN_lt (zN z) (n := tn t) (by omega)
    have d2 := drN_lt (zN (zN z)) (n := tn t) (by omega)
    unfold sdT at hs
    refine s_sblN hF ht (by omega) (by omega) (fun c F' g1 S18 e18 => ?_) (fun c S18 e18 => ?_)
    · rw [if_pos c] at hs
      rw [e18, nI_1]
      exact l_bySeed hN h0 ht1 hQ m (i + 1) _ _ (zN (zN z)) (by omega) (okT_nb ht c) (by rw [nbT_n]; exact hn0) g1 hs
    · rw [if_neg (by rw [c]; decide)] at hs
      rw [e18, nI_1]
      exact l_bySeed hN h0 ht1 hQ m (i + 1) _ t (zN (zN z)) (by omega) ht hn0 hF hs
theorem l7_seeds {Y1 : St} {N n0 : Nat} {x2 : Int32} {t0 t1 : TV} {Q : Int32 → St → Prop} (hN : N ≤ 40) (h0 : 0 < n0) (ht0 : okT t0) (ht1 : okT t1) (hk : absF (flK Y1 1) t0)
    (h : ∀ Y', absF (flM Y') t0 → frm [5, 6, 17, 18] [1, 2, 3, 4] Y1 Y' → Q (nI (pdT t1 / 2)) Y') :
    ∀ (m i : Nat) (S : St) (t : TV) (z : Int32), i + m = N → okT t → tn t = n0 → absF (flM S) t → frm [] [3, 4] Y1 S → sdT m t z = t1 → wp_X7_seeds_44 (nI N) x2 Q (m + 1) S z (nI i)
  | 0, i, S, t, z, hi, ht, hn0, hF, hS, hs => by
    unfold wp_X7_seeds_44
    have : i = N := by omega
    subst this
    have e : t = t1 := hs
    subst e
    refine br_t (nI_le (Nat.le_refl _) (by omega)) (s7_pairsDanced hF ht (s_passesAllR (w := 1) (by omega) (fun Y' fr hr => h Y' (hr t0 ht0.1 ?_) ?_)))
    · rw [flK_frm (hS.2 15 (by decide))]; exact hk
    · exact (hS.mono (fun s z => absurd z List.not_mem_nil) (fun s z => by simp at z ⊢; omega)).tr fr
  | m + 1, i, S, t, z, hi, ht, hn0, hF, hS, hs => by
    have hn := ht.1
    have e5 : S.1 5 = nI (tn t) := hF.1
    have d1 := drN_lt (zN z) (n := tn t) (by omega)
    have d2 := drN_lt (zN (zN z)) (n := tn t) (by omega)
    have ne : ¬ nI (tn t) = 0 := nI_ne0 (by omega) (by omega)
    unfold wp_X7_seeds_44
    rw [e5]
    refine br_f (fun c => by rw [nI_leI (by omega) (by omega)] at c; omega) ?_
    intro z11 e11
    refine ⟨ne, fun z13 e13 z15 e15 => ⟨ne, fun z17 e17 => ?_⟩⟩
    rw [dr_eq z11 (by omega) hn] at e13
    rw [dr_eq z15 (by omega) hn] at e17
    have z1 : z11 = zN z := e11
    have z2 : z15 = zN (zN z) := by rw [e15, z1]; rfl
    rw [z1] at e13
    rw [z2] at e17
    rw [e13, e17, z2, nI_1]
    unfold sdT at hs
    have kno : okp t (drN (zN z) (tn t)) (drN (zN (zN z)) (tn t)) = false → wp_X7_seeds_44 (nI N) x2 Q (m + 1) S (zN (zN z)) (nI (i + 1)) := by
      intro c
      rw [if_neg (by rw [c]; decide)] at hs
      exact l7_seeds hN h0 ht0 ht1 hk h m (i + 1) S t _ (by omega) ht hn0 hF hS hs
    by_cases c : drN (zN z) (tn t) = drN (zN (zN z)) (tn t)
    · exact br_t (by rw [c]) (kno (by simp [okp, c]))
    · refine br_f (fun e => c ((nI_inj8 (by omega) (by omega)).mp e)) (s7_mayDance hF ht d1 d2 (bb (fun d => kno ?_) (fun d => s7_dancesByLeast hF ht d1 d2 c (fun Y' g1 g2 => ?_))))
      · unfold okp; rw [d]; simp
      · have c2 : okp t (drN (zN z) (tn t)) (drN (zN (zN z)) (tn t)) = true := okp_iff.mpr ⟨d1, d2, c, d⟩
        rw [if_pos c2] at hs
        exact l7_seeds hN h0 ht0 ht1 hk h m (i + 1) Y' _ _ (by omega) (okT_nb ht c2) (by rw [nbT_n]; exact hn0) g1 (hS.tr g2) hs
theorem okT_sd : ∀ (m : Nat) {t : TV} (z : Int32), okT t → okT (sdT m t z)
  | 0, _, _, h => h
  | m + 1, t, z, h => by
    unfold sdT
    refine okT_sd m _ ?_
    split
    · next c => exact okT_nb h c
    · exact h
theorem ls_seeds : LS_24 Inv := by
  rintro X Y x z ⟨G, hG, hX, hY⟩
  obtain ⟨x1, x2, x3, x4, x5, x6, x7, x8⟩ := id hX
  obtain ⟨y1, y2, y3, y4, y5, y6, y7, y8⟩ := id hY
  have ht := hG.1
  have hn := ht.1
  have no7 : ∀ {k : Nat} {v : Int32} {X2 : CS}, -v = nI k → k < 7 → ¬ v = 0 → absX X2 (rfG G k) → wp_X7_seeds_22 x z (fun r2 Y2 => v = r2 ∧ Inv X2 Y2) Y v := by
    intro k v X2 h1 h2 h3 g1
    unfold wp_X7_seeds_22
    exact br_f h3 (s7_no h1 h2 hY (fun Y2 g2 => ⟨rfl, _, hG.rf k, g1, g2⟩))
  unfold wp_X6_seeds
  by_cases c0 : (1 : Int32) ≤ x
  · refine br_t c0 ?_
    by_cases c1 : x ≤ (40 : Int32)
    · refine br_t c1 ?_
      obtain ⟨N, hN, eN⟩ : ∃ j, j ≤ 40 ∧ x = nI j := nI_of2 (M := 40) (n := 40) rfl (by rw [Int32.le_iff_toInt_le] at c0; rw [Int32.lt_iff_toInt_lt]; have : (1 : Int32).toInt = 1 := rfl; have : (0 : Int32).toInt = 0 := rfl; omega) c1
      rw [show X.2.1.1 0 = nI (tn (gt G)) from x1.1]
      have b7 : ∀ {Q : Int32 → Prop}, Q 0 → wp_X7_bound x 1 40 Q := fun h => br_t c0 (br_t c1 h)
      by_cases c2 : tn (gt G) = 0
      · refine bn_f (by rw [c2]; rfl) (s_refuse (k := 3) rfl (by omega) hX (fun X2 g1 => b7 (bn_f rfl ?_)))
        rw [show Y.1 5 = nI (tn (gt G)) from y1.1]
        exact bn_f (by rw [c2]; rfl) (no7 (k := 3) rfl (by omega) (by decide) g1)
      · refine bn_t (nI_ne0 (by omega) (by omega)) ?_
        unfold wp_X1_pairsBySeed
        refine s_copyFrom ht x1 (fun F' g1 S5 e5 => ?_)
        have ht1 := okT_sd N z ht
        rw [e5, eN]
        refine ⟨_, l_bySeed hN (n0 := tn (gt G)) (by omega) ht1 (fun M' S8 e8 => ?_) N 0 _ (gt G) z (by omega) ht rfl g1 rfl⟩
        have hX8 : absX S8 G := by rw [e8]; exact hX
        rw [← eN]
        refine b7 (bn_f rfl ?_)
        rw [show Y.1 5 = nI (tn (gt G)) from y1.1]
        refine bn_t (nI_ne0 (by omega) (by omega)) (br_t rfl (s_passesAllK (w := 1) (by omega) (fun Y1 fr1 hk hq => ?_)))
        rw [eN]
        refine ⟨_, l7_seeds hN (n0 := tn (gt G)) (by omega) ht ht1 (hk _ ht.1 y1) (fun Y' k1 k2 => ⟨rfl, G, hG, hX8, ?_⟩) N 0 Y1 (gt G) z (by omega) ht rfl (flM_frm fr1 (by decide) (by decide) y1) frm.rf rfl⟩
        have fr2 : frm [5, 6, 17, 18] [1, 2, 3, 4, 15] Y Y' := (fr1.mono (fun s z => by simp at z ⊢; omega) (fun s z => by simp at z ⊢; omega)).tr (k2.mono (fun s z => z) (fun s z => by simp at z ⊢; omega))
        exact absY.of (t := gt G) hG hY k1 fr2 (by decide) (by decide) (fun q hq2 => by rw [k2.2 15 (by decide)]; exact hq q (by omega))
    · refine br_f c1 (s_refuse (k := 6) rfl (by omega) hX (fun X2 g1 => ?_))
      exact br_t c0 (br_f c1 (bn_t (by decide) (no7 (k := 6) rfl (by omega) (by decide) g1)))
  · refine br_f c0 (s_refuse (k := 4) rfl (by omega) hX (fun X2 g1 => ?_))
    exact br_f c0 (bn_t (by decide) (no7 (k := 4) rfl (by omega) (by decide) g1))
