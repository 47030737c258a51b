/-! the reference's ending -/
def brd (x : Int32) (h : Nat → Bool) (n : Nat) : Prop := (x = -9 ∧ ∀ j, j < n → h j = true) ∨ ∃ d, d < 8 ∧ x = nI d ∧ ∀ j, j < n → h j = !decide (j = d)
theorem bq {b : Bool} {A B : Prop} (h0 : b = false → A) (h1 : b = true → B) : (¬ b2i b = 1 → A) ∧ (b2i b = 1 → B) := ⟨fun c => h0 (by cases b; rfl; exact absurd rfl c), fun c => h1 ((b2i_1 b).mp c)⟩
theorem s7_pB26 {Y : St} {P : EP} {E : EE} {a b : Nat} {x4 y1 : Int32} {Q : Int32 → St → Prop} (hA : ar Y 19 E P.1) (hP : okP P) (hE : okE P.1 E) (ha : a < P.1) (hb : b < P.1) (hy : ∀ j, j < P.1 → bt (y1 ^^^ (-1)) j = P.2.2.1 j) (h : Q (nI (cnt (cb P.2.1 P.2.2.1 E a b) 10)) Y) :
    wp_X7_plainBringers_26 (nI a) (nI b) (nI P.2.1) x4 Q Y (Y.2 19 a &&& Y.2 19 b) y1 := by
  have hn := hP.1
  have hl := hP.2.1
  have hz : ∀ j, bt ((Y.2 19 a &&& Y.2 19 b) &&& (y1 ^^^ (-1))) j = (E a j && (E b j && P.2.2.1 j)) := by
    intro j
    rw [b_and, b_and, hA a ha j, hA b hb j]
    rcases Nat.lt_or_ge j P.1 with q | q
    · rw [hy j q, Bool.and_assoc]
    · rw [hE.big (i := a) q]; rfl
  unfold wp_X7_plainBringers_26
  by_cases e : P.2.1 = 2
  · refine bn_f (by rw [e]; rfl) ?_
    have key : ∀ m, m = min a b → wp_X7_plainBringers_49 (nI a) (nI b) (nI P.2.1) x4 Q Y ((Y.2 19 a &&& Y.2 19 b) &&& (y1 ^^^ (-1))) 1 (nI m) := by
      intro m hm
      unfold wp_X7_plainBringers_49
      intro z ez
      have hy : ∀ j, bt z j = cb P.2.1 P.2.2.1 E a b j := by
        intro j
        have : decide (j < m) = (decide (j < a) && decide (j < b)) := by rw [Bool.eq_iff_iff]; simp; omega
        rw [ez, b_and, hz]
        show ((E a j && (E b j && P.2.2.1 j)) && bt (b1 m - 1) j) = _
        rw [b_low (by omega), this]
        simp [cb, e, Bool.and_assoc]
      refine s_bits (fun i hi => by rw [hy]; simp [cb, hE.big (i := a) (show P.1 ≤ i by omega)]) ?_
      rw [cnt_congr (fun i _ => hy i)]; exact h
    by_cases d : b ≤ a
    · exact br_t (nI_le d (by omega)) (key b (by omega))
    · exact br_f (fun q => d ((nI_leI (by omega) (by omega)).mp q)) (key a (by omega))
  · refine bn_t (fun z => e ((nI_inj8 (b := 2) (by omega) (by omega)).mp z)) (s_bits (fun i hi => by rw [hz, hE.big (i := a) (by omega)]; rfl) ?_)
    rw [cnt_congr (g := cb P.2.1 P.2.2.1 E a b) (fun i _ => by rw [hz]; simp [cb, e])]; exact h
theorem s7_plainBringers {Y : St} {P : EP} {E : EE} {a b : Nat} {x4 : Int32} {Q : Int32 → St → Prop} (hA : ar Y 19 E P.1) (hP : okP P) (hE : okE P.1 E) (ha : a < P.1) (hb : b < P.1) (hx : brd x4 P.2.2.1 P.1) (h : Q (nI (cnt (cb P.2.1 P.2.2.1 E a b) 10)) Y) :
    wp_X7_plainBringers Y (nI a) (nI b) (nI P.2.1) x4 Q := by
  have hn := hP.1
  unfold wp_X7_plainBringers
  rw [nI_clamp (n := a) (by omega), nI_clamp (n := b) (by omega)]
  refine ⟨vp_in_nI (by omega) (by omega), vp_in_nI (by omega) (by omega), ?_⟩
  rcases hx with ⟨e, g⟩ | ⟨d, hd, e, g⟩
  · refine br_f (by rw [e]; decide) (s7_pB26 hA hP hE ha hb (fun j hj => ?_) h)
    rw [b_xor, b_0, b_m1 j (by omega), g j hj]; rfl
  · refine br_t (by rw [e]; exact nI_le (a := 0) (Nat.zero_le d) (by omega)) (s7_pB26 hA hP hE ha hb (fun j hj => ?_) h)
    rw [e, g j hj]
    exact b_not (by omega) (by omega)
/-- within a round of the reference -/
def GR (Y T : St) (P : EP) (E : EE) (a b : Nat) : Prop := frm [] [20, 21] Y T ∧ ar T 20 (PD P E a b) P.1 ∧ ∀ i j, i < j → j < P.1 → T.2 21 (8 * i + j) = if PD P E a b i j then Y.1 22 + 1 else Y.2 21 (8 * i + j)
theorem l7_g46 {Y : St} {t : TV} {P : EP} {E : EE} {a : Nat} {x2 : Int32} {K : St → Int32 → Int32 → Prop} {Q : Int32 → St → Prop} (hF : absF (flM Y) t) (ht : okT t) (hPn : P.1 = tn t) (hPc : P.2.2.2 = csn t) (hx : brd x2 P.2.2.1 P.1) (hA : ar Y 19 E P.1) (hP : okP P) (hE : okE P.1 E) (ha : a < P.1)
    (hK : ∀ T f, GR Y T P E a P.1 → fg P E a P.1 f → K T (b2i f) (nI (a + 1))) :
    ∀ (m b : Nat) (T : St) (f : Bool), b + m = P.1 → a < b → GR Y T P E a b → fg P E a b f → wp_X7_goesRound_46 K (nI P.2.1) x2 Q (m + 1) T (b2i f) (nI a) (nI b)
  | 0, b, T, f, hb, hab, hg, hf => by
    have hn := hP.1
    unfold wp_X7_goesRound_46
    rw [show T.1 5 = nI P.1 by rw [hg.1.1 5 (by decide), hPn]; exact hF.1]
    have e : b = P.1 := by omega
    subst e
    rw [nI_1]
    exact br_t (nI_le (Nat.le_refl _) (by omega)) (hK T f hg hf)
  | m + 1, b, T, f, hb, hab, hg, hf => by
    have hn := hP.1
    have hl := hP.2.1
    have hb' : b < P.1 := by omega
    have hva : vp_in (nI a) 8 := vp_in_nI (by omega) (by omega)
    have hvb : vp_in (nI b) 8 := vp_in_nI (by omega) (by omega)
    have hFT : absF (flM T) t := flM_frm hg.1 (by decide) (by decide) hF
    have hAT : ar T 19 E P.1 := by intro i hi j; rw [hg.1.2 19 (by decide)]; exact hA i hi j
    have no : nw P E a b = false → wp_X7_goesRound_46 K (nI P.2.1) x2 Q (m + 1) T (b2i f) (nI a) (nI (b + 1)) := fun q => l7_g46 hF ht hPn hPc hx hA hP hE ha hK m (b + 1) T f (by omega) (by omega) (by unfold GR; rw [PD_f hP hE hab q]; exact hg) (fg_f hP hE hab q hf)
    have yes : nw P E a b = true → wp_X7_goesRound_111 (fun s0 v0 v1 v2 => wp_X7_goesRound_46 K (nI P.2.1) x2 Q (m + 1) s0 v0 v1 v2) K (nI P.2.1) x2 Q T (nI a) (nI b) := by
      intro q
      unfold wp_X7_goesRound_111
      rw [show (8 : Int32) * nI a = nI (8 * a) from pk_mul 8 a, nI_add, nI_clamp (n := a) (by omega), nI_clamp (n := b) (by omega), nI_clamp (n := 8 * a + b) (by omega)]
      refine ⟨hva, hva, fun S1 e1 => ⟨hvb, hvb, fun S2 e2 => ⟨vp_in_nI (by omega) (by omega), fun S3 e3 => ?_⟩⟩⟩
      rw [nI_1]
      have f1 : frm [] [20, 21] T S2 := by
        rw [e2, e1]
        exact ((frm.sA 20 _ _).mono (fun s z => z) (fun s z => by simp at z; simp [z])).tr ((frm.sA 20 _ _).mono (fun s z => z) (fun s z => by simp at z; simp [z]))
      have f2 : frm [] [20, 21] S2 S3 := by rw [e3]; exact (frm.sA 21 _ _).mono (fun s z => z) (fun s z => by simp at z; simp [z])
      refine l7_g46 hF ht hPn hPc hx hA hP hE ha hK m (b + 1) S3 true (by omega) (by omega) ⟨(hg.1.tr f1).tr f2, ?_, fun i j hij hj => ?_⟩ (fg_t hP q)
      · rw [PD_t hP hE hab q]
        have := hg.2.1.add hn ha hb' (show a ≠ b by omega)
        intro i hi j
        rw [e3, sA_n _ _ _ (by decide), e2, e1]
        exact this i hi j
      · rw [PD_t hP hE hab q, e3, sA_s]
        have e21 : S2.2 21 = T.2 21 := by rw [e2, e1, sA_n _ _ _ (by decide), sA_n _ _ _ (by decide)]
        have e22 : S2.1 22 = Y.1 22 := by rw [e2, e1]; exact hg.1.1 22 (by decide)
        by_cases c : i = a ∧ j = b
        · obtain ⟨rfl, rfl⟩ := c
          rw [upd_s, if_pos (by simp [addE]), e22]
        · rw [upd_n _ _ (by omega), e21, hg.2.2 i j hij hj]
          have : addE (PD P E a b) a b i j = PD P E a b i j := by
            unfold addE
            have h1 : (decide (i = a) && decide (j = b)) = false := by rw [Bool.eq_false_iff]; simp; intro z1 z2; exact c ⟨z1, z2⟩
            have h2 : (decide (i = b) && decide (j = a)) = false := by rw [Bool.eq_false_iff]; simp; omega
            rw [h1, h2]; simp
          rw [this]
    have hcn := cnt_le (cb P.2.1 P.2.2.1 E a b) 10
    unfold wp_X7_goesRound_46
    rw [show T.1 5 = nI P.1 by rw [hg.1.1 5 (by decide), hPn]; exact hF.1, nI_1 b, nI_clamp (n := a) (by omega), b_sel (by omega), hAT a ha b]
    refine br_f (fun c => by rw [nI_leI (by omega) (by omega)] at c; omega) ⟨hva, bq (fun c => s7_cousins hFT ht (by omega) (by omega) (bb' (fun d => yes (nw_iff.mpr ⟨ha, hb', by omega, c, by simp [cc, hPc, d]⟩)) (fun d => s7_plainBringers hAT hP hE ha hb' hx ?_))) (fun c => no (nw_f c))⟩
    have hcc : cc P E a b = decide (nd P.2.1 ≤ cnt (cb P.2.1 P.2.2.1 E a b) 10) := by simp [cc, hPc, d]
    by_cases e : P.2.1 = 1
    · refine bn_f (by rw [e]; rfl) ?_
      rw [show nd P.2.1 = 2 by rw [e]; rfl] at hcc
      by_cases g : 2 ≤ cnt (cb P.2.1 P.2.2.1 E a b) 10
      · rw [decide_eq_true g] at hcc
        exact br_t (nI_le (a := 2) g (by omega)) (yes (nw_iff.mpr ⟨ha, hb', by omega, c, hcc⟩))
      · rw [decide_eq_false g] at hcc
        exact br_f (fun q => by rw [show (2 : Int32) = nI 2 from rfl, nI_leI (by omega) (by omega)] at q; omega) (no (by simp [nw, hcc]))
    · refine bn_t (fun z => e ((nI_inj8 (b := 1) (by omega) (by omega)).mp z)) ?_
      rw [show nd P.2.1 = 1 by unfold nd; rw [if_neg e]] at hcc
      by_cases g : 1 ≤ cnt (cb P.2.1 P.2.2.1 E a b) 10
      · rw [decide_eq_true g] at hcc
        exact br_t (nI_le (a := 1) g (by omega)) (yes (nw_iff.mpr ⟨ha, hb', by omega, c, hcc⟩))
      · rw [decide_eq_false g] at hcc
        exact br_f (fun q => by rw [show (1 : Int32) = nI 1 from rfl, nI_leI (by omega) (by omega)] at q; omega) (no (by simp [nw, hcc]))
theorem l7_g175 {Y S : St} {P : EP} {E : EE} {x2 : Int32} {Q : Int32 → St → Prop} (hP : okP P) (hA : ar Y 19 E P.1) (h5 : Y.1 5 = nI P.1) (hg : GR Y S P E P.1 (P.1 + 1)) (f : Bool)
    (hQ : ∀ T, frm [] [19, 20, 21] Y T → ar T 19 (rs P E) P.1 → (∀ i j, i < j → j < P.1 → T.2 21 (8 * i + j) = if nw P E i j then Y.1 22 + 1 else Y.2 21 (8 * i + j)) → Q (b2i f) T) :
    ∀ (m i : Nat) (T : St), i + m = P.1 → frm [] [19] S T → (∀ q, q < i → T.2 19 q = S.2 19 q ||| S.2 20 q) → (∀ q, i ≤ q → T.2 19 q = S.2 19 q) → wp_X7_goesRound_175 (nI P.2.1) x2 Q (m + 1) T (b2i f) (nI i)
  | 0, i, T, hi, hf, h1, h2 => by
    have hn := hP.1
    have e : i = P.1 := by omega
    subst e
    unfold wp_X7_goesRound_175
    rw [show T.1 5 = nI P.1 by rw [hf.1 5 (by decide), hg.1.1 5 (by decide)]; exact h5]
    refine br_t (nI_le (Nat.le_refl _) (by omega)) ⟨b2i_bz _, hQ T ((hg.1.mono (fun s z => z) (fun s z => List.mem_cons_of_mem _ z)).tr (hf.mono (fun s z => z) (fun s z => by simp at z; simp [z]))) (fun i hi j => ?_) (fun i j hij hj => ?_)⟩
    · rw [h1 i hi, b_or, hg.1.2 19 (by decide), hA i hi j, hg.2.1 i hi j, PD_n]; rfl
    · rw [hf.2 21 (by decide), hg.2.2 i j hij hj, PD_n]
  | m + 1, i, T, hi, hf, h1, h2 => by
    have hn := hP.1
    have hv : vp_in (nI i) 8 := vp_in_nI (by omega) (by omega)
    unfold wp_X7_goesRound_175
    rw [show T.1 5 = nI P.1 by rw [hf.1 5 (by decide), hg.1.1 5 (by decide)]; exact h5, nI_clamp (n := i) (by omega), nI_1]
    refine br_f (fun c => by rw [nI_leI (by omega) (by omega)] at c; omega) ⟨hv, hv, hv, fun T2 e2 => ?_⟩
    refine l7_g175 hP hA h5 hg f hQ m (i + 1) T2 (by omega) (hf.tr (by rw [e2]; exact frm.sA 19 _ _)) (fun q hq => ?_) (fun q hq => ?_)
    · rw [e2, sA_s]
      by_cases c : q = i
      · rw [c, upd_s, h2 i (Nat.le_refl _), hf.2 20 (by decide)]
      · rw [upd_n _ _ c]; exact h1 q (by omega)
    · rw [e2, sA_s, upd_n _ _ (by omega)]; exact h2 q (by omega)
theorem l7_g31 {Y : St} {t : TV} {P : EP} {E : EE} {x2 : Int32} {Q : Int32 → St → Prop} (hF : absF (flM Y) t) (ht : okT t) (hPn : P.1 = tn t) (hPc : P.2.2.2 = csn t) (hx : brd x2 P.2.2.1 P.1) (hA : ar Y 19 E P.1) (hP : okP P) (hE : okE P.1 E)
    (hQ : ∀ T, frm [] [19, 20, 21] Y T → ar T 19 (rs P E) P.1 → (∀ i j, i < j → j < P.1 → T.2 21 (8 * i + j) = if nw P E i j then Y.1 22 + 1 else Y.2 21 (8 * i + j)) → Q (b2i (an P E)) T) :
    ∀ (m a : Nat) (T : St) (f : Bool), a + m = P.1 → GR Y T P E a (a + 1) → fg P E a (a + 1) f → wp_X7_goesRound_31 (nI P.2.1) x2 Q (m + 1) T (b2i f) (nI a)
  | 0, a, T, f, ha, hg, hf => by
    have hn := hP.1
    have e : a = P.1 := by omega
    subst e
    have h5 : Y.1 5 = nI P.1 := by rw [hPn]; exact hF.1
    unfold wp_X7_goesRound_31
    rw [show T.1 5 = nI P.1 by rw [hg.1.1 5 (by decide)]; exact h5]
    obtain rfl := fg_n hP hf
    exact br_t (nI_le (Nat.le_refl _) (by omega)) ⟨P.1 + 1, l7_g175 hP hA h5 hg (an P E) hQ P.1 0 T (by omega) frm.rf (fun q hq => by omega) (fun _ _ => rfl)⟩
  | m + 1, a, T, f, ha, hg, hf => by
    have hn := hP.1
    unfold wp_X7_goesRound_31
    rw [show T.1 5 = nI P.1 by rw [hg.1.1 5 (by decide), hPn]; exact hF.1]
    refine br_f (fun c => by rw [nI_leI (by omega) (by omega)] at c; omega) ⟨P.1 - (a + 1) + 1, ?_⟩
    rw [show nI a + (1 : Int32) = nI (a + 1) from nI_1 a]
    exact l7_g46 hF ht hPn hPc hx hA hP hE (by omega) (fun S2 f2 h1 h2 => l7_g31 hF ht hPn hPc hx hA hP hE hQ m (a + 1) S2 f2 (by omega) (by unfold GR; rw [← PD_r]; exact h1) (fg_r h2)) _ (a + 1) T f (by omega) (by omega) hg hf
theorem l7_g5 {Y : St} {t : TV} {P : EP} {E : EE} {x2 : Int32} {Q : Int32 → St → Prop} (hF : absF (flM Y) t) (ht : okT t) (hPn : P.1 = tn t) (hPc : P.2.2.2 = csn t) (hx : brd x2 P.2.2.1 P.1) (hA : ar Y 19 E P.1) (hP : okP P) (hE : okE P.1 E)
    (hQ : ∀ T, frm [] [19, 20, 21] Y T → ar T 19 (rs P E) P.1 → (∀ i j, i < j → j < P.1 → T.2 21 (8 * i + j) = if nw P E i j then Y.1 22 + 1 else Y.2 21 (8 * i + j)) → Q (b2i (an P E)) T) :
    ∀ (m i : Nat) (T : St), i + m = P.1 → frm [] [20] Y T → (∀ q, q < i → T.2 20 q = 0) → wp_X7_goesRound_5 (nI P.2.1) x2 Q (m + 1) T (0 : Int32) (nI i)
  | 0, i, T, hi, hf, h1 => by
    have hn := hP.1
    have e : i = P.1 := by omega
    subst e
    unfold wp_X7_goesRound_5
    rw [show T.1 5 = nI P.1 by rw [hf.1 5 (by decide), hPn]; exact hF.1]
    refine br_t (nI_le (Nat.le_refl _) (by omega)) ⟨P.1 + 1, l7_g31 hF ht hPn hPc hx hA hP hE hQ P.1 0 T false (by omega) ⟨hf.mono (fun s z => z) (fun s z => by simp at z; simp [z]), fun i hi j => ?_, fun i j hij hj => ?_⟩ (fg_0 P E)⟩
    · rw [PD_0, h1 i hi, b_0]
    · rw [PD_0, hf.2 21 (by decide)]; rfl
  | m + 1, i, T, hi, hf, h1 => by
    have hn := hP.1
    have hv : vp_in (nI i) 8 := vp_in_nI (by omega) (by omega)
    unfold wp_X7_goesRound_5
    rw [show T.1 5 = nI P.1 by rw [hf.1 5 (by decide), hPn]; exact hF.1, nI_clamp (n := i) (by omega), nI_1]
    refine br_f (fun c => by rw [nI_leI (by omega) (by omega)] at c; omega) ⟨hv, fun T2 e2 => ?_⟩
    refine l7_g5 hF ht hPn hPc hx hA hP hE hQ m (i + 1) T2 (by omega) (hf.tr (by rw [e2]; exact frm.sA 20 _ _)) (fun q hq => ?_)
    rw [e2, sA_s]
    by_cases c : q = i
    · rw [c, upd_s]
    · rw [upd_n _ _ c]; exact h1 q (by omega)
theorem s7_goesRound {Y : St} {t : TV} {P : EP} {E : EE} {x2 : Int32} {Q : Int32 → St → Prop} (hF : absF (flM Y) t) (ht : okT t) (hPn : P.1 = tn t) (hPc : P.2.2.2 = csn t) (hx : brd x2 P.2.2.1 P.1) (hA : ar Y 19 E P.1) (hP : okP P) (hE : okE P.1 E)
    (hQ : ∀ T, frm [] [19, 20, 21] Y T → ar T 19 (rs P E) P.1 → (∀ i j, i < j → j < P.1 → T.2 21 (8 * i + j) = if nw P E i j then Y.1 22 + 1 else Y.2 21 (8 * i + j)) → Q (b2i (an P E)) T) : wp_X7_goesRound Y (nI P.2.1) x2 Q :=
  ⟨P.1 + 1, l7_g5 hF ht hPn hPc hx hA hP hE hQ P.1 0 Y (by omega) frm.rf (fun q hq => by omega)⟩
/-- by when -/
def ro (P : EP) (E : EE) (k i j : Nat) : Int32 := if it P E k i j then nI (cnt (fun q => !it P E q i j) k) else -9
theorem ro_s (P : EP) (E : EE) (k i j : Nat) : ro P E (k + 1) i j = if nw P (it P E k) i j then nI (k + 1) else ro P E k i j := by
  unfold ro
  rw [it_s, cnt_s]
  show (if (it P E k i j || nw P (it P E k) i j) = true then _ else _) = _
  cases c : it P E k i j
  · cases d : nw P (it P E k) i j
    · rfl
    · rw [cnt_all (fun q hq => by rw [it_mono' (Nat.le_of_lt hq) c]; rfl)]; rfl
  · rw [nw_f c]; rfl
theorem ro_stop {P : EP} (hP : okP P) {E : EE} {k : Nat} (hk : k ≤ 28) (h : an P (it P E k) = false) (i j : Nat) : ro P E k i j = ro P E 28 i j := by
  unfold ro
  rw [it_stop' hP h hk]
  cases c : it P E k i j
  · rfl
  · rw [if_pos rfl, if_pos rfl, cnt_more _ hk (fun q h1 _ => by rw [it_stop' hP h h1, c]; rfl)]
theorem l7_c101 {Y : St} {P : EP} {E : EE} {x1 x2 : Int32} {Q : Int32 → St → Prop} (h5 : Y.1 5 = nI P.1) (hA : ar Y 19 E P.1) (hP : okP P) (hE : okE P.1 E) (h : Q (nI (pE E P.1)) Y) : ∀ (m i : Nat), i + m = P.1 → wp_X7_closes_101 x1 x2 Q (m + 1) Y (nI (smN (fun i => cnt (E i) 10) i)) (nI i)
  | 0, i, hi => by
    have hn := hP.1
    have hp := pE_le E hn
    unfold wp_X7_closes_101
    have : i = P.1 := by omega
    subst this
    rw [h5]
    refine br_t (nI_le (Nat.le_refl _) (by omega)) ?_
    rw [show (2 : Int32) = nI 2 from rfl, pk_div (by omega) (by omega) (by omega)]
    exact h
  | m + 1, i, hi => by
    have hn := hP.1
    have ih := l7_c101 (x1 := x1) (x2 := x2) h5 hA hP hE h m (i + 1) (by omega)
    unfold wp_X7_closes_101
    rw [h5]
    refine br_f (fun c => by rw [nI_leI (by omega) (by omega)] at c; omega) ⟨vp_in_nI (by omega) (by omega), ?_⟩
    rw [nI_clamp (by omega)]
    refine s_bits (fun j hj => by rw [hA i (by omega) j]; exact hE.big (by omega)) ?_
    rw [cnt_congr (fun j _ => hA i (by omega) j), nI_add, nI_1]
    exact ih
def clQ (Y : St) (P : EP) (E : EE) (Q : Int32 → St → Prop) : Prop := ∀ T, frm [22] [19, 20, 21] Y T → T.1 22 = nI (rc P E) → ar T 19 (fin P E) P.1 → (∀ i j, i < j → j < P.1 → T.2 21 (8 * i + j) = ro P E 28 i j) → Q (nI (pE (fin P E) P.1)) T
theorem l7_c74 {Y : St} {t : TV} {P : EP} {E : EE} {x2 : Int32} {Q : Int32 → St → Prop} (hF : absF (flM Y) t) (ht : okT t) (hPn : P.1 = tn t) (hPc : P.2.2.2 = csn t) (hx : brd x2 P.2.2.1 P.1) (hP : okP P) (hE : okE P.1 E)
    (hQ : clQ Y P E Q) :
    ∀ (m k : Nat) (T : St), k + m = 28 → frm [22] [19, 20, 21] Y T → T.1 22 = nI k → ar T 19 (it P E k) P.1 → (∀ i j, i < j → j < P.1 → T.2 21 (8 * i + j) = ro P E k i j) → (∀ j, j < k → an P (it P E j) = true) → wp_X7_closes_74 (nI P.2.1) x2 Q (m + 1) T := by
  intro m
  induction m with
  | zero =>
    intro k T hk hf h22 hA hr ha
    have e : k = 28 := by omega
    subst e
    have hFT : absF (flM T) t := flM_frm hf (by decide) (by decide) hF
    have haf := an_fin hP hE
    unfold wp_X7_closes_74
    refine s7_goesRound hFT ht hPn hPc hx hA hP (hE.it hP 28) (fun U f1 hA1 hr1 => ?_)
    rw [haf]
    have f2 : frm [22] [19, 20, 21] Y U := hf.tr (f1.mono (fun s z => absurd z List.not_mem_nil) (fun s z => z))
    rw [an_f hP haf] at hA1
    refine br_t rfl ⟨P.1 + 1, l7_c101 (E := it P E 28) (by rw [f2.1 5 (by decide), hPn]; exact hF.1) hA1 hP (hE.it hP 28) (hQ U f2 ?_ hA1 (fun i j hij hj => ?_)) P.1 0 (by omega)⟩
    · rw [rc_at hP (Nat.le_refl _) ha haf, f1.1 22 (by decide)]; exact h22
    · rw [hr1 i j hij hj, an_no hP haf, ← hr i j hij hj]; rfl
  | succ m ih =>
    intro k T hk hf h22 hA hr ha
    have hFT : absF (flM T) t := flM_frm hf (by decide) (by decide) hF
    unfold wp_X7_closes_74
    refine s7_goesRound hFT ht hPn hPc hx hA hP (hE.it hP k) (fun U f1 hA1 hr1 => ?_)
    have f2 : frm [22] [19, 20, 21] Y U := hf.tr (f1.mono (fun s z => absurd z List.not_mem_nil) (fun s z => z))
    have e22 : U.1 22 = nI k := by rw [f1.1 22 (by decide)]; exact h22
    refine bb (fun c => ?_) (fun c S e => ?_)
    · rw [an_f hP c] at hA1
      have e28 : fin P E = it P E k := it_stop' hP c (by omega)
      refine ⟨P.1 + 1, l7_c101 (E := it P E k) (by rw [f2.1 5 (by decide), hPn]; exact hF.1) hA1 hP (hE.it hP k) ?_ P.1 0 (by omega)⟩
      rw [← e28]
      refine hQ U f2 ?_ (by rw [e28]; exact hA1) (fun i j hij hj => ?_)
      · rw [rc_at hP (by omega) ha c]; exact e22
      · rw [hr1 i j hij hj, an_no hP c, ← ro_stop hP (by omega) c, ← hr i j hij hj]; rfl
    · refine ih (k + 1) S (by omega) ?_ ?_ (by rw [e]; exact hA1) (fun i j hij hj => ?_) (fun j hj => ?_)
      · exact f2.tr (by rw [e]; exact (frm.sI 22 _).mono (fun s z => z) (fun s z => absurd z List.not_mem_nil))
      · rw [e, sI_s, e22, nI_1]
      · rw [e, sI_2, hr1 i j hij hj, ro_s, hr i j hij hj, h22, nI_1]
      · rcases Nat.lt_or_ge j k with q | q
        · exact ha j q
        · rw [show j = k by omega]; exact c
theorem s7_hdA {Y : St} {a b : Nat} {Q : Int32 → St → Prop} (ha : a < 8) (hb : b < 31) (h : Q (b2i (bt (Y.2 4 a) b)) Y) : wp_X7_haveDanced Y (nI a) (nI b) Q := by
  refine ⟨vp_in_nI (by omega) (by omega), ?_⟩
  rw [nI_clamp (by omega), b_sel hb]
  exact bq (fun c => by rw [c] at h; exact h) (fun c => by rw [c] at h; exact h)
theorem l7_c30 {Y : St} {t : TV} {P : EP} {E : EE} {x2 : Int32} {Q : Int32 → St → Prop} (hF : absF (flM Y) t) (ht : okT t) (hPn : P.1 = tn t) (hPc : P.2.2.2 = csn t) (hx : brd x2 P.2.2.1 P.1) (hP : okP P) (hE : okE P.1 E) (h4 : ar Y 4 E P.1)
    (hQ : clQ Y P E Q) :
    ∀ (m k : Nat) (T : St), k + m = 64 → frm [22] [19, 20, 21] Y T → ar T 19 E P.1 → (∀ q, q < k → T.2 21 q = if bt (Y.2 4 (q / 8)) (q % 8) then 0 else -9) → wp_X7_closes_30 (nI P.2.1) x2 Q (m + 1) T (nI k)
  | 0, k, T, hk, hf, hA, hr => by
    have e : k = 64 := by omega
    subst e
    unfold wp_X7_closes_30
    refine br_t (by decide) (fun S e => ⟨29, l7_c74 hF ht hPn hPc hx hP hE hQ 28 0 S rfl ?_ (by rw [e, sI_s]; rfl) (by rw [e]; exact hA) (fun i j hij hj => ?_) (fun j hj => by omega)⟩)
    · exact hf.tr (by rw [e]; exact (frm.sI 22 _).mono (fun s z => z) (fun s z => absurd z List.not_mem_nil))
    · have hn := hP.1
      rw [e, sI_2, hr _ (by omega), show (8 * i + j) / 8 = i by omega, show (8 * i + j) % 8 = j by omega, h4 i (by omega) j]
      rfl
  | m + 1, k, T, hk, hf, hA, hr => by
    unfold wp_X7_closes_30
    rw [show nI k - nI k / (8 : Int32) * (8 : Int32) = nI (k % 8) from pk_rem (d := 8) (by omega) (by omega) (by omega), show nI k / (8 : Int32) = nI (k / 8) from pk_div (d := 8) (by omega) (by omega) (by omega), nI_clamp (n := k) (by omega), nI_1]
    have hv : vp_in (nI k) 64 := vp_in_nI (by omega) (by omega)
    have go : ∀ (v : Int32) (S : St), S = sA T 21 k v → (v = if bt (Y.2 4 (k / 8)) (k % 8) then 0 else -9) → wp_X7_closes_30 (nI P.2.1) x2 Q (m + 1) S (nI (k + 1)) := by
      intro v S e hv
      refine l7_c30 hF ht hPn hPc hx hP hE h4 hQ m (k + 1) S (by omega) (hf.tr (by rw [e]; exact (frm.sA 21 _ _).mono (fun s z => absurd z List.not_mem_nil) (fun s z => by simp at z; simp [z]))) (by intro i hi j; rw [e, sA_n _ _ _ (by decide)]; exact hA i hi j) (fun q hq => ?_)
      rw [e, sA_s]
      by_cases c : q = k
      · rw [c, upd_s, hv]
      · rw [upd_n _ _ c]; exact hr q (by omega)
    refine br_f (fun c => by rw [show (64 : Int32) = nI 64 from rfl, nI_leI (by omega) (by omega)] at c; omega) (s7_hdA (by omega) (by omega) ?_)
    rw [show T.2 4 = Y.2 4 from hf.2 4 (by decide)]
    exact bb (fun c => ⟨hv, fun S e => go _ S e (by rw [c]; rfl)⟩) (fun c => ⟨hv, fun S e => go _ S e (by rw [c]; rfl)⟩)
theorem l7_c2 {Y : St} {t : TV} {P : EP} {E : EE} {x2 : Int32} {Q : Int32 → St → Prop} (hF : absF (flM Y) t) (ht : okT t) (hPn : P.1 = tn t) (hPc : P.2.2.2 = csn t) (hx : brd x2 P.2.2.1 P.1) (hP : okP P) (hE : okE P.1 E) (h4 : ar Y 4 E P.1)
    (hQ : clQ Y P E Q) :
    ∀ (m i : Nat) (T : St), i + m = P.1 → frm [] [19] Y T → (∀ q, q < i → T.2 19 q = Y.2 4 q) → wp_X7_closes_2 (nI P.2.1) x2 Q (m + 1) T (nI i)
  | 0, i, T, hi, hf, h1 => by
    have hn := hP.1
    have e : i = P.1 := by omega
    subst e
    unfold wp_X7_closes_2
    rw [show T.1 5 = nI P.1 by rw [hf.1 5 (by decide), hPn]; exact hF.1]
    refine br_t (nI_le (Nat.le_refl _) (by omega)) ⟨65, l7_c30 hF ht hPn hPc hx hP hE h4 hQ 64 0 T rfl (hf.mono (fun s z => absurd z List.not_mem_nil) (fun s z => by simp at z; simp [z])) (fun i hi j => ?_) (fun q hq => by omega)⟩
    rw [h1 i hi]; exact h4 i hi j
  | m + 1, i, T, hi, hf, h1 => by
    have hn := hP.1
    have hv : vp_in (nI i) 8 := vp_in_nI (by omega) (by omega)
    unfold wp_X7_closes_2
    rw [show T.1 5 = nI P.1 by rw [hf.1 5 (by decide), hPn]; exact hF.1, nI_clamp (n := i) (by omega), nI_1]
    refine br_f (fun c => by rw [nI_leI (by omega) (by omega)] at c; omega) ⟨hv, hv, fun T2 e2 => ?_⟩
    refine l7_c2 hF ht hPn hPc hx hP hE h4 hQ m (i + 1) T2 (by omega) (hf.tr (by rw [e2]; exact frm.sA 19 _ _)) (fun q hq => ?_)
    rw [e2, sA_s]
    by_cases c : q = i
    · rw [c, upd_s, hf.2 4 (by decide)]
    · rw [upd_n _ _ c]; exact h1 q (by omega)
theorem s7_closes {Y : St} {t : TV} {P : EP} {x1 x2 : Int32} {Q : Int32 → St → Prop} (hF : absF (flM Y) t) (ht : okT t) (hPn : P.1 = tn t) (hPc : P.2.2.2 = csn t) (h1 : x1 = nI P.2.1) (hx : brd x2 P.2.2.1 P.1) (hP : okP P)
    (hQ : clQ Y P (te t) Q) : wp_X7_closes Y x1 x2 Q := by
  subst h1
  exact ⟨P.1 + 1, l7_c2 hF ht hPn hPc hx hP (by rw [hPn]; exact okTE ht) (by rw [hPn]; exact hF.2.2.2.2.2) hQ P.1 0 Y (by omega) frm.rf (fun q hq => by omega)⟩
