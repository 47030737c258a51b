/-! the class's ending -/
def absE (S : St) (P : EP) (E : EE) (r : Nat) : Prop := S.1 0 = nI P.1 ∧ S.1 1 = nI P.2.1 ∧ (∀ j, j < P.1 → bt (S.1 2) j = P.2.2.1 j) ∧ S.1 3 = nI r ∧ ar S 4 E P.1 ∧ ∀ i j, i < P.1 → j < P.1 → i ≠ j → bt (S.2 6 i) j = P.2.2.2 i j
theorem z0_cnt {x : Int32} (hb : ∀ i, 10 ≤ i → bt x i = false) : x = 0 ↔ cnt (bt x) 10 = 0 := by
  constructor
  · intro h; subst h; exact cnt_0.mpr (fun i _ => b_0 i)
  · intro h
    refine b_ext (fun i _ => ?_)
    rw [b_0]
    rcases Nat.lt_or_ge i 10 with q | q
    · exact cnt_0.mp h i q
    · exact hb i q
theorem b_low0 : ∀ m, m < 9 → ∀ j, j < 32 → bt (b1 m - 1) j = decide (j < m) := by decide +kernel
theorem b_low {m : Nat} (hm : m < 9) (j : Nat) : bt (b1 m - 1) j = decide (j < m) := by
  rcases Nat.lt_or_ge j 32 with q | q
  · exact b_low0 m hm j q
  · rw [b_big q]; symm; rw [decide_eq_false_iff_not]; omega
theorem okE.big {n : Nat} {E : EE} (hE : okE n E) {i j : Nat} (h : n ≤ j) : E i j = false := by
  cases c : E i j
  · rfl
  · have := (hE.1 i j c).2.1; omega
theorem nI_min {a b : Nat} (ha : a < 1000) (hb : b < 1000) : (if nI b < nI a then nI b else nI a) = nI (min a b) := by
  by_cases d : b < a
  · rw [if_pos ((nI_ltI (by omega) (by omega)).mpr d), show min a b = b by omega]
  · rw [if_neg (fun z => d ((nI_ltI (by omega) (by omega)).mp z)), show min a b = a by omega]
theorem nI_max {a b : Nat} (ha : a < 1000) (hb : b < 1000) : (if nI a < nI b then nI b else nI a) = nI (max a b) := by
  by_cases d : a < b
  · rw [if_pos ((nI_ltI (by omega) (by omega)).mpr d), show max a b = b by omega]
  · rw [if_neg (fun z => d ((nI_ltI (by omega) (by omega)).mp z)), show max a b = a by omega]
theorem s_canCome {S : St} {P : EP} {E : EE} {r a b : Nat} {Q : Int32 → St → Prop} (hS : absE S P E r) (hP : okP P) (hE : okE P.1 E) (ha : a < P.1) (hb : b < P.1) (hab : a ≠ b) (h : Q (b2i (cc P E a b)) S) : wp_X0_canCome S (nI a) (nI b) Q := by
  have hn := hP.1
  have hl := hP.2.1
  have hva : vp_in (nI a) 8 := vp_in_nI (by omega) (by omega)
  have hvb : vp_in (nI b) 8 := vp_in_nI (by omega) (by omega)
  unfold wp_X0_canCome
  rw [nI_clamp (n := a) (by omega), nI_clamp (n := b) (by omega)]
  refine ⟨hva, s_hasBit (by omega) ?_⟩
  rw [hS.2.2.2.2.2 a b ha hb hab]
  refine bb (fun c => ⟨hva, hvb, fun z ez => ?_⟩) (fun c => by simpa [cc, c, b2i] using h)
  have hz : ∀ j, bt z j = (E a j && (E b j && P.2.2.1 j)) := by
    intro j
    rw [ez, b_and, b_and, hS.2.2.2.2.1 a ha j, hS.2.2.2.2.1 b hb j]
    rcases Nat.lt_or_ge j P.1 with q | q
    · rw [hS.2.2.1 j q, Bool.and_assoc]
    · rw [hE.big (i := a) q]; rfl
  have hz10 : ∀ i, 10 ≤ i → bt z i = false := fun i hi => by rw [hz, hE.big (i := a) (by omega)]; rfl
  have hcc : cc P E a b = decide (nd P.2.1 ≤ cnt (cb P.2.1 P.2.2.1 E a b) 10) := by simp [cc, c]
  rw [hcc] at h
  have hN10 := cnt_le (cb P.2.1 P.2.2.1 E a b) 10
  rw [hS.2.1]
  rcases (show P.2.1 = 1 ∨ P.2.1 = 2 ∨ P.2.1 = 0 by omega) with e | e | e
  · refine br_t (by rw [e]; rfl) (s_bitCount hz10 ?_)
    rw [show cnt (bt z) 10 = cnt (cb P.2.1 P.2.2.1 E a b) 10 from cnt_congr (fun i _ => by rw [hz]; simp [cb, e])]
    generalize cnt (cb P.2.1 P.2.2.1 E a b) 10 = N at h hN10 ⊢
    rw [show nd P.2.1 = 2 by rw [e]; rfl] at h
    by_cases d : 2 ≤ N
    · rw [decide_eq_true d] at h
      exact br_f (fun q => by rw [show (2 : Int32) = nI 2 from rfl, nI_ltI (by omega) (by omega)] at q; omega) h
    · rw [decide_eq_false d] at h
      exact br_t (by rw [show (2 : Int32) = nI 2 from rfl, nI_ltI (by omega) (by omega)]; omega) h
  · refine br_f (by rw [e]; decide) (br_t (by rw [e]; rfl) ?_)
    rw [nI_min (by omega) (by omega)]
    have hm : min a b < 9 := by omega
    have hy : ∀ j, bt (z &&& ((1 : Int32) <<< (nI (min a b) &&& 31) - 1)) j = cb P.2.1 P.2.2.1 E a b j := by
      intro j
      have : decide (j < min a b) = (decide (j < a) && decide (j < b)) := by rw [Bool.eq_iff_iff]; simp; omega
      rw [b_and, hz]
      show ((E a j && (E b j && P.2.2.1 j)) && bt (b1 (min a b) - 1) j) = _
      rw [b_low hm, this]
      simp [cb, e, Bool.and_assoc]
    have h0 := z0_cnt (x := z &&& ((1 : Int32) <<< (nI (min a b) &&& 31) - 1)) (fun i hi => by rw [hy]; simp [cb, hE.big (i := a) (show P.1 ≤ i by omega)])
    rw [show cnt (bt (z &&& ((1 : Int32) <<< (nI (min a b) &&& 31) - 1))) 10 = cnt (cb P.2.1 P.2.2.1 E a b) 10 from cnt_congr (fun i _ => hy i)] at h0
    generalize cnt (cb P.2.1 P.2.2.1 E a b) 10 = N at h hN10 h0
    rw [show nd P.2.1 = 1 by rw [e]; rfl] at h
    by_cases d : 1 ≤ N
    · rw [decide_eq_true d] at h
      exact br_f (fun q => by have := h0.mp q; omega) h
    · rw [decide_eq_false d] at h
      exact br_t (h0.mpr (by omega)) h
  · refine br_f (by rw [e]; decide) (br_f (by rw [e]; decide) ?_)
    have h0 := z0_cnt hz10
    rw [show cnt (bt z) 10 = cnt (cb P.2.1 P.2.2.1 E a b) 10 from cnt_congr (fun i _ => by rw [hz]; simp [cb, e])] at h0
    generalize cnt (cb P.2.1 P.2.2.1 E a b) 10 = N at h hN10 h0
    rw [show nd P.2.1 = 1 by rw [e]; rfl] at h
    by_cases d : 1 ≤ N
    · rw [decide_eq_true d] at h
      exact br_f (fun q => by have := h0.mp q; omega) h
    · rw [decide_eq_false d] at h
      exact br_t (h0.mpr (by omega)) h
theorem s_hdE {S : St} {P : EP} {E : EE} {r a b : Nat} {Q : Int32 → St → Prop} (hS : absE S P E r) (hP : okP P) (ha : a < P.1) (hb : b < 31) (h : Q (b2i (E a b)) S) : wp_X0_haveDanced S (nI a) (nI b) Q := by
  have hn := hP.1
  refine ⟨vp_in_nI (by omega) (by omega), ?_⟩
  rw [nI_clamp (by omega)]
  refine s_hasBit hb ⟨b2i_bz _, ?_⟩
  rw [hS.2.2.2.2.1 a ha b]
  exact h
/-- within a round -/
def prE (S S' : St) (P : EP) (E : EE) (a b : Nat) : Prop := S'.1 = S.1 ∧ (∀ s, s ≠ 5 → S'.2 s = S.2 s) ∧ ar S' 5 (fun i j => E i j || PD P E a b i j) P.1
theorem prE.abs {S S' : St} {P : EP} {E : EE} {a b r : Nat} (h : prE S S' P E a b) (hS : absE S P E r) : absE S' P E r := by
  obtain ⟨h1, h2, h3, h4, h5, h6⟩ := hS
  refine ⟨by rw [h.1]; exact h1, by rw [h.1]; exact h2, by rw [h.1]; exact h3, by rw [h.1]; exact h4, ?_, ?_⟩
  · intro i hi j; rw [h.2.1 4 (by decide)]; exact h5 i hi j
  · rw [h.2.1 6 (by decide)]; exact h6
theorem l_pr44 {S : St} {P : EP} {E : EE} {r a : Nat} {K : St → Int32 → Int32 → Prop} {Q : Int32 → St → Prop} (hS : absE S P E r) (hP : okP P) (hE : okE P.1 E) (ha : a < P.1)
    (hK : ∀ S' f, prE S S' P E a P.1 → fg P E a P.1 f → K S' (b2i f) (nI (a + 1))) :
    ∀ (m b : Nat) (S' : St) (f : Bool), b + m = P.1 → a < b → prE S S' P E a b → fg P E a b f → wp_X0_playRound_44 K Q (m + 1) S' (b2i f) (nI a) (nI b)
  | 0, b, S', f, hb, hab, hp, hf => by
    have hn := hP.1
    unfold wp_X0_playRound_44
    rw [(hp.abs hS).1]
    have e : b = P.1 := by omega
    subst e
    rw [nI_1]
    exact br_t (nI_le (Nat.le_refl _) (by omega)) (hK S' f hp hf)
  | m + 1, b, S', f, hb, hab, hp, hf => by
    have hn := hP.1
    have hA := hp.abs hS
    have hb' : b < P.1 := by omega
    have hva : vp_in (nI a) 8 := vp_in_nI (by omega) (by omega)
    have hvb : vp_in (nI b) 8 := vp_in_nI (by omega) (by omega)
    have no : nw P E a b = false → wp_X0_playRound_44 K Q (m + 1) S' (b2i f) (nI a) (nI (b + 1)) := fun q => l_pr44 hS hP hE ha hK m (b + 1) S' f (by omega) (by omega) ⟨hp.1, hp.2.1, by rw [PD_f hP hE hab q]; exact hp.2.2⟩ (fg_f hP hE hab q hf)
    unfold wp_X0_playRound_44
    rw [hA.1, nI_1 b, nI_clamp (n := a) (by omega), nI_clamp (n := b) (by omega)]
    refine br_f (fun c => by rw [nI_leI (by omega) (by omega)] at c; omega) (s_hdE hA hP ha (by omega) (bb' (fun c => no (nw_f c)) (fun c => s_canCome hA hP hE ha hb' (by omega) (bb (fun d => no ?_) (fun d => ⟨hva, hva, fun S1 e1 => ⟨hvb, hvb, fun S2 e2 => ?_⟩⟩)))))
    · simp [nw, c, d]
    · have q : nw P E a b = true := nw_iff.mpr ⟨ha, hb', by omega, c, d⟩
      refine l_pr44 hS hP hE ha hK m (b + 1) S2 true (by omega) (by omega) ⟨?_, fun s hs => ?_, ?_⟩ (fg_t hP q)
      · rw [e2, e1]; exact hp.1
      · rw [e2, e1, sA_n _ _ _ hs, sA_n _ _ _ hs]; exact hp.2.1 s hs
      · have := hp.2.2.add hn ha hb' (show a ≠ b by omega)
        rw [PD_t hP hE hab q, e2, e1]
        intro i hi j
        dsimp only
        rw [show (E i j || addE (PD P E a b) a b i j) = addE (fun i j => E i j || PD P E a b i j) a b i j by unfold addE; rw [Bool.or_assoc]]
        exact this i hi j
theorem l_pr110 {S' : St} {P : EP} {E : EE} {r : Nat} {Q : Int32 → St → Prop} (hS : absE S' P E r) (hP : okP P) (hp : ar S' 5 (rs P E) P.1) (f : Bool)
    (hQ : ∀ T, absE T P (rs P E) (if f then r + 1 else r) → Q (b2i f) T) :
    ∀ (m i : Nat) (T : St), i + m = P.1 → T.1 = S'.1 → (∀ s, s ≠ 4 → T.2 s = S'.2 s) → (∀ q, q < i → T.2 4 q = S'.2 5 q) → wp_X0_playRound_110 Q (m + 1) T (b2i f) (nI i)
  | 0, i, T, hi, h1, h2, h3 => by
    have hn := hP.1
    have e : i = P.1 := by omega
    subst e
    unfold wp_X0_playRound_110
    have hT : absE T P (rs P E) r := by
      obtain ⟨g1, g2, g3, g4, g5, g6⟩ := hS
      refine ⟨by rw [h1]; exact g1, by rw [h1]; exact g2, by rw [h1]; exact g3, by rw [h1]; exact g4, fun i hi j => ?_, by rw [h2 6 (by decide)]; exact g6⟩
      rw [h3 i hi]; exact hp i hi j
    rw [hT.1]
    refine br_t (nI_le (Nat.le_refl _) (by omega)) (bb (fun c => ⟨b2i_bz _, ?_⟩) (fun c T2 e2 => ⟨b2i_bz _, ?_⟩))
    · refine hQ T ?_
      rw [c]; exact hT
    · refine hQ T2 ?_
      rw [c, e2]
      obtain ⟨g1, g2, g3, g4, g5, g6⟩ := hT
      refine ⟨g1, g2, g3, ?_, g5, g6⟩
      rw [sI_s, g4, nI_1]; rfl
  | m + 1, i, T, hi, h1, h2, h3 => by
    have hn := hP.1
    have hv : vp_in (nI i) 8 := vp_in_nI (by omega) (by omega)
    unfold wp_X0_playRound_110
    rw [show T.1 0 = nI P.1 by rw [h1]; exact hS.1, nI_clamp (n := i) (by omega), nI_1]
    refine br_f (fun c => by rw [nI_leI (by omega) (by omega)] at c; omega) ⟨hv, hv, fun T2 e2 => ?_⟩
    refine l_pr110 hS hP hp f hQ m (i + 1) T2 (by omega) (by rw [e2]; exact h1) (fun s hs => by rw [e2, sA_n _ _ _ hs]; exact h2 s hs) (fun q hq => ?_)
    rw [e2, sA_s]
    by_cases c : q = i
    · rw [c, upd_s, h2 5 (by decide)]
    · rw [upd_n _ _ c]; exact h3 q (by omega)
theorem l_pr32 {S : St} {P : EP} {E : EE} {r : Nat} {Q : Int32 → St → Prop} (hS : absE S P E r) (hP : okP P) (hE : okE P.1 E)
    (hQ : ∀ T, absE T P (rs P E) (if an P E then r + 1 else r) → Q (b2i (an P E)) T) :
    ∀ (m a : Nat) (S' : St) (f : Bool), a + m = P.1 → prE S S' P E a (a + 1) → fg P E a (a + 1) f → wp_X0_playRound_32 Q (m + 1) S' (b2i f) (nI a)
  | 0, a, S', f, ha, hp, hf => by
    have hn := hP.1
    have e : a = P.1 := by omega
    subst e
    unfold wp_X0_playRound_32
    rw [(hp.abs hS).1]
    obtain rfl := fg_n hP hf
    refine br_t (nI_le (Nat.le_refl _) (by omega)) ⟨P.1 + 1, l_pr110 (hp.abs hS) hP (fun i hi j => ?_) (an P E) hQ P.1 0 S' (by omega) rfl (fun _ _ => rfl) (fun q hq => by omega)⟩
    rw [hp.2.2 i hi j, PD_n]; rfl
  | m + 1, a, S', f, ha, hp, hf => by
    have hn := hP.1
    unfold wp_X0_playRound_32
    rw [(hp.abs hS).1]
    refine br_f (fun c => by rw [nI_leI (by omega) (by omega)] at c; omega) ⟨P.1 - (a + 1) + 1, ?_⟩
    rw [show nI a + (1 : Int32) = nI (a + 1) from nI_1 a]
    exact l_pr44 hS hP hE (by omega) (fun S2 f2 h1 h2 => l_pr32 hS hP hE hQ m (a + 1) S2 f2 (by omega) ⟨h1.1, h1.2.1, by rw [← PD_r]; exact h1.2.2⟩ (fg_r h2)) _ (a + 1) S' f (by omega) (by omega) hp hf
theorem l_pr2 {S : St} {P : EP} {E : EE} {r : Nat} {Q : Int32 → St → Prop} (hS : absE S P E r) (hP : okP P) (hE : okE P.1 E)
    (hQ : ∀ T, absE T P (rs P E) (if an P E then r + 1 else r) → Q (b2i (an P E)) T) :
    ∀ (m i : Nat) (T : St), i + m = P.1 → T.1 = S.1 → (∀ s, s ≠ 5 → T.2 s = S.2 s) → (∀ q, q < i → T.2 5 q = S.2 4 q) → wp_X0_playRound_2 Q (m + 1) T (nI i)
  | 0, i, T, hi, h1, h2, h3 => by
    have hn := hP.1
    have e : i = P.1 := by omega
    subst e
    unfold wp_X0_playRound_2
    rw [show T.1 0 = nI P.1 by rw [h1]; exact hS.1]
    refine br_t (nI_le (Nat.le_refl _) (by omega)) ⟨P.1 + 1, l_pr32 hS hP hE hQ P.1 0 T false (by omega) ⟨h1, h2, fun i hi j => ?_⟩ (fg_0 P E)⟩
    rw [PD_0, h3 i hi, hS.2.2.2.2.1 i hi j]; simp
  | m + 1, i, T, hi, h1, h2, h3 => by
    have hn := hP.1
    have hv : vp_in (nI i) 8 := vp_in_nI (by omega) (by omega)
    unfold wp_X0_playRound_2
    rw [show T.1 0 = nI P.1 by rw [h1]; exact hS.1, nI_clamp (n := i) (by omega), nI_1]
    refine br_f (fun c => by rw [nI_leI (by omega) (by omega)] at c; omega) ⟨hv, hv, fun T2 e2 => ?_⟩
    refine l_pr2 hS hP hE hQ m (i + 1) T2 (by omega) (by rw [e2]; exact h1) (fun s hs => by rw [e2, sA_n _ _ _ hs]; exact h2 s hs) (fun q hq => ?_)
    rw [e2, sA_s]
    by_cases c : q = i
    · rw [c, upd_s, h2 4 (by decide)]
    · rw [upd_n _ _ c]; exact h3 q (by omega)
theorem s_playRound {S : St} {P : EP} {E : EE} {r : Nat} {Q : Int32 → St → Prop} (hS : absE S P E r) (hP : okP P) (hE : okE P.1 E)
    (hQ : ∀ T, absE T P (rs P E) (if an P E then r + 1 else r) → Q (b2i (an P E)) T) : wp_X0_playRound S Q :=
  ⟨P.1 + 1, l_pr2 hS hP hE hQ P.1 0 S (by omega) rfl (fun _ _ => rfl) (fun q hq => by omega)⟩
theorem l_settle {P : EP} {E : EE} {r : Nat} {Q : St → Prop} (hP : okP P) (hE : okE P.1 E) (hQ : ∀ T, absE T P (fin P E) (r + rc P E) → Q T) :
    ∀ (m i : Nat) (S : St), i + m = 28 → absE S P (it P E i) (r + i) → (∀ j, j < i → an P (it P E j) = true) → wp_X0_settle_2 Q (m + 1) S (nI i) := by
  intro m
  induction m with
  | zero =>
    intro i S hi hS ha
    have e : i = 28 := by omega
    subst e
    unfold wp_X0_settle_2
    refine br_f (by decide) (s_playRound hS hP (hE.it hP 28) (fun T hT => ?_))
    rw [an_fin hP hE] at hT ⊢
    refine bn_f rfl (hQ T ?_)
    rw [rc_at hP (Nat.le_refl _) ha (an_fin hP hE)]
    rw [an_f hP (an_fin hP hE)] at hT
    exact hT
  | succ m ih =>
    intro i S hi hS ha
    unfold wp_X0_settle_2
    refine br_f (fun c => by rw [show (28 : Int32) = nI 28 from rfl, nI_ltI (by omega) (by omega)] at c; omega) (s_playRound hS hP (hE.it hP i) (fun T hT => ?_))
    refine bb' (fun c => ?_) (fun c => ?_)
    · rw [nI_1]
      rw [c] at hT
      refine ih (i + 1) T (by omega) hT (fun j hj => ?_)
      rcases Nat.lt_or_ge j i with q | q
      · exact ha j q
      · rw [show j = i by omega]; exact c
    · refine hQ T ?_
      rw [rc_at hP (by omega) ha c]
      rw [c, an_f hP c] at hT
      show absE T P (it P E 28) _
      rw [it_stop' hP c (show i ≤ 28 by omega)]
      exact hT
theorem s_settle {S : St} {P : EP} {E : EE} {r : Nat} {Q : St → Prop} (hS : absE S P E r) (hP : okP P) (hE : okE P.1 E) (hQ : ∀ T, absE T P (fin P E) (r + rc P E) → Q T) : wp_X0_settle S Q :=
  ⟨29, l_settle hP hE hQ 28 0 S rfl hS (fun j hj => by omega)⟩
def pE (E : EE) (n : Nat) : Nat := smN (fun i => cnt (E i) 10) n / 2
theorem pE_le (E : EE) {n : Nat} (hn : n ≤ 8) : smN (fun i => cnt (E i) 10) n ≤ 80 := by
  have h1 := smN_le (f := fun i => cnt (E i) 10) (c := 10) (fun i => cnt_le _ 10) n
  omega
theorem l_pairsE {S : St} {P : EP} {E : EE} {r : Nat} {Q : Int32 → St → Prop} (hS : absE S P E r) (hP : okP P) (hE : okE P.1 E) (h : Q (nI (pE E P.1)) S) : ∀ (m i : Nat), i + m = P.1 → wp_X0_pairs_4 Q (m + 1) S (nI (smN (fun i => cnt (E i) 10) i)) (nI i)
  | 0, i, hi => by
    have hn := hP.1
    have hp := pE_le E hn
    unfold wp_X0_pairs_4
    have : i = P.1 := by omega
    subst this
    rw [hS.1]
    refine br_t (nI_le (Nat.le_refl _) (by omega)) ?_
    rw [show (2 : Int32) = nI 2 from rfl, pk_div (by omega) (by omega) (by omega)]
    exact h
  | m + 1, i, hi => by
    have hn := hP.1
    have ih := l_pairsE hS hP hE h m (i + 1) (by omega)
    unfold wp_X0_pairs_4
    rw [hS.1]
    refine br_f (fun c => by rw [nI_leI (by omega) (by omega)] at c; omega) ⟨vp_in_nI (by omega) (by omega), ?_⟩
    rw [nI_clamp (by omega)]
    refine s_bitCount (fun j hj => by rw [hS.2.2.2.2.1 i (by omega) j]; exact hE.big (by omega)) ?_
    rw [cnt_congr (fun j _ => hS.2.2.2.2.1 i (by omega) j), nI_add, nI_1]
    exact ih
theorem s_pairsE {S : St} {P : EP} {E : EE} {r : Nat} {Q : Int32 → St → Prop} (hS : absE S P E r) (hP : okP P) (hE : okE P.1 E) (h : Q (nI (pE E P.1)) S) : wp_X0_pairs S Q := ⟨_, l_pairsE hS hP hE h P.1 0 (by omega)⟩
/-! begin -/
def P0 (t : TV) : EP := (tn t, tl t, fun _ => true, csn t)
def PL (t : TV) (l : Nat) : EP := (tn t, l, fun _ => true, csn t)
def PW (t : TV) (d : Nat) : EP := (tn t, tl t, fun j => !decide (j = d), csn t)
theorem okP0 {t : TV} (ht : okT t) : okP (P0 t) := ⟨ht.1, ht.2.1, csn_comm t⟩
theorem okPL {t : TV} (ht : okT t) {l : Nat} (hl : l ≤ 2) : okP (PL t l) := ⟨ht.1, hl, csn_comm t⟩
theorem okPW {t : TV} (ht : okT t) (d : Nat) : okP (PW t d) := ⟨ht.1, ht.2.1, csn_comm t⟩
theorem okTE {t : TV} (ht : okT t) : okE (tn t) (te t) := ⟨ht.2.2.2.2.1, ht.2.2.2.2.2⟩
theorem l_cousinsOf {F : St} {t : TV} {a : Nat} {Q : Int32 → St → Prop} (hF : absF F t) (ht : okT t) (ha : a < tn t) (h : Q (mkI (fun j => !decide (j = a) && csn t a j) (tn t)) F) :
    ∀ (m i : Nat), i + m = tn t → wp_X0_cousinsOf_4 (nI a) Q (m + 1) F (mkI (fun j => !decide (j = a) && csn t a j) i) (nI i)
  | 0, i, hi => by
    have hn := ht.1
    unfold wp_X0_cousinsOf_4
    have : i = tn t := by omega
    subst this
    rw [hF.1]
    exact br_t (nI_le (Nat.le_refl _) (by omega)) h
  | m + 1, i, hi => by
    have hn := ht.1
    have ih := l_cousinsOf hF ht ha h m (i + 1) (by omega)
    rw [mkI_s] at ih
    unfold wp_X0_cousinsOf_4
    rw [hF.1, nI_1]
    refine br_f (fun c => by rw [nI_leI (by omega) (by omega)] at c; omega) ?_
    by_cases c : i = a
    · rw [if_neg (by simp [c])] at ih
      exact br_t (by rw [c]) ih
    · refine br_f (fun z => c ((nI_inj8 (by omega) (by omega)).mp z)) (s_cousins hF ht ha (by omega) (bb (fun d => ?_) (fun d => ?_)))
      · rw [if_neg (by simp [c, d])] at ih
        exact ih
      · rw [if_pos (by simp [c, d])] at ih
        exact ih
theorem l_begin {F : St} {t : TV} {S : St} {Q : St → St → Prop} (hF : absF F t) (ht : okT t) (h0 : S.1 0 = nI (tn t)) (h1 : S.1 1 = nI (tl t)) (h2 : S.1 2 = b1 (tn t) - 1) (h3 : S.1 3 = 0) (h : ∀ S', absE S' (P0 t) (te t) 0 → Q S' F) :
    ∀ (m i : Nat) (T : St), i + m = tn t → T.1 = S.1 → (∀ q, q < i → ∀ j, bt (T.2 4 q) j = te t q j) → (∀ q, q < i → ∀ j, j < tn t → q ≠ j → bt (T.2 6 q) j = csn t q j) → wp_X0_begin_35 Q (m + 1) T F (nI i)
  | 0, i, T, hi, g1, g2, g3 => by
    have hn := ht.1
    unfold wp_X0_begin_35
    have : i = tn t := by omega
    subst this
    rw [show T.1 0 = nI (tn t) by rw [g1]; exact h0]
    refine br_t (nI_le (Nat.le_refl _) (by omega)) (h T ⟨by rw [g1]; exact h0, by rw [g1]; exact h1, fun j hj => ?_, by rw [g1]; exact h3, g2, fun i j hi hj hij => g3 i hi j hj hij⟩)
    rw [g1, h2, b_low (by omega)]
    exact decide_eq_true hj
  | m + 1, i, T, hi, g1, g2, g3 => by
    have hn := ht.1
    have hv : vp_in (nI i) 8 := vp_in_nI (by omega) (by omega)
    unfold wp_X0_begin_35
    rw [show T.1 0 = nI (tn t) by rw [g1]; exact h0, nI_clamp (n := i) (by omega), nI_1]
    refine br_f (fun c => by rw [nI_leI (by omega) (by omega)] at c; omega) ⟨hv, hv, fun T1 e1 => ⟨tn t + 1, l_cousinsOf hF ht (by omega) ⟨hv, fun T2 e2 => ?_⟩ (tn t) 0 (by omega)⟩⟩
    refine l_begin hF ht h0 h1 h2 h3 h m (i + 1) T2 (by omega) (by rw [e2, e1]; exact g1) (fun q hq j => ?_) (fun q hq j hj hqj => ?_)
    · rw [e2, sA_n _ _ _ (by decide), e1, sA_s]
      by_cases c : q = i
      · rw [c, upd_s]; exact hF.2.2.2.2.2 i (by omega) j
      · rw [upd_n _ _ c]; exact g2 q (by omega) j
    · rw [e2, sA_s]
      by_cases c : q = i
      · rw [c, upd_s, b_mkI _ _ _ (by omega)]
        have : ¬ j = i := fun e => hqj (by rw [c, e])
        simp [hj, this]
      · rw [upd_n _ _ c, e1, sA_n _ _ _ (by decide)]; exact g3 q (by omega) j hj hqj
theorem s_beginE {F : St} {t : TV} {S : St} {Q : St → St → Prop} (hF : absF F t) (ht : okT t) (h : ∀ S', absE S' (P0 t) (te t) 0 → Q S' F) : wp_X0_begin S F Q := by
  intro S1 e1 S3 e3 S5 e5 S7 e7
  refine ⟨tn t + 1, l_begin (S := S7) hF ht ?_ ?_ ?_ ?_ h (tn t) 0 S7 (by omega) rfl (fun q hq => by omega) (fun q hq => by omega)⟩
  · rw [e7, sI_n _ _ (by decide), e5, sI_n _ _ (by decide), e3, sI_n _ _ (by decide), e1, sI_s]; exact hF.1
  · rw [e7, sI_n _ _ (by decide), e5, sI_n _ _ (by decide), e3, sI_s]; exact hF.2.1
  · rw [e7, sI_n _ _ (by decide), e5, sI_s, e3, sI_n _ _ (by decide), e1, sI_s, hF.1]; rfl
  · rw [e7, sI_s]
theorem s_joinPair {S : St} {P : EP} {E : EE} {r p : Nat} {Q : St → Prop} (hS : absE S P E r) (hP : okP P) (hp : p < 100) (ha : p / 10 < P.1) (hb : p % 10 < P.1) (hab : p / 10 ≠ p % 10) (h : ∀ S', absE S' P (addE E (p / 10) (p % 10)) r → Q S') : wp_X0_joinPair S (nI p) Q := by
  have hn := hP.1
  have hva : vp_in (nI (p / 10)) 8 := vp_in_nI (by omega) (by omega)
  have hvb : vp_in (nI (p % 10)) 8 := vp_in_nI (by omega) (by omega)
  unfold wp_X0_joinPair wp_X6_lesserOf wp_X6_greaterOf
  rw [rem10 hp, div10 hp]
  dsimp only
  rw [nI_clamp (n := p / 10) (by omega), nI_clamp (n := p % 10) (by omega)]
  refine ⟨hva, hva, fun S1 e1 => ⟨hvb, hvb, fun S2 e2 => h S2 ?_⟩⟩
  obtain ⟨g1, g2, g3, g4, g5, g6⟩ := hS
  have := g5.add hn ha hb hab
  rw [e2, e1]
  exact ⟨g1, g2, g3, g4, this, g6⟩
theorem s_partPair {S : St} {P : EP} {E : EE} {r p : Nat} {Q : St → Prop} (hS : absE S P E r) (hP : okP P) (hp : p < 100) (ha : p / 10 < P.1) (hb : p % 10 < P.1) (hab : p / 10 ≠ p % 10) (h : ∀ S', absE S' P (remE E (p / 10) (p % 10)) r → Q S') : wp_X0_partPair S (nI p) Q := by
  have hn := hP.1
  have hva : vp_in (nI (p / 10)) 8 := vp_in_nI (by omega) (by omega)
  have hvb : vp_in (nI (p % 10)) 8 := vp_in_nI (by omega) (by omega)
  unfold wp_X0_partPair wp_X6_lesserOf wp_X6_greaterOf
  rw [rem10 hp, div10 hp]
  dsimp only
  rw [nI_clamp (n := p / 10) (by omega), nI_clamp (n := p % 10) (by omega)]
  refine ⟨hva, hva, fun S1 e1 => ⟨hvb, hvb, fun S2 e2 => h S2 ?_⟩⟩
  obtain ⟨g1, g2, g3, g4, g5, g6⟩ := hS
  have := g5.rem hn ha hb hab
  rw [e2, e1]
  exact ⟨g1, g2, g3, g4, this, g6⟩
/-- whether all have danced in the end -/
def fl (n : Nat) (E : EE) : Bool := decide (nI (pE E n) = (nI n * (nI n - (1 : Int32))) / (2 : Int32))
theorem s_isFull {S : St} {P : EP} {E : EE} {r : Nat} {Q : Int32 → St → Prop} (hS : absE S P E r) (hP : okP P) (hE : okE P.1 E) (h : Q (b2i (fl P.1 E)) S) : wp_X0_isFull S Q := by
  unfold wp_X0_isFull
  refine s_pairsE hS hP hE ?_
  rw [hS.1]
  unfold fl at h
  by_cases c : nI (pE E P.1) = (nI P.1 * (nI P.1 - (1 : Int32))) / (2 : Int32)
  · rw [decide_eq_true c] at h
    exact bn_f c h
  · rw [decide_eq_false c] at h
    exact bn_t c h
