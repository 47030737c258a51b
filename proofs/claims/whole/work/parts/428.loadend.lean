/-! load, both: choices as numbers -/
def dg (R V i : Nat) : Nat := V / 8 ^ (R - (i + 1)) % 8
def nxV (R V i : Nat) : Nat := (V / 8 ^ (R - i) + 1) * 8 ^ (R - i)
theorem p8 : ∀ n : Nat, 0 < 8 ^ n
  | 0 => by decide
  | n + 1 => by rw [Nat.pow_succ]; have := p8 n; omega
theorem dv8 (V a b : Nat) : V / 8 ^ (a + b) = V / 8 ^ a / 8 ^ b := by rw [Nat.pow_add, Nat.div_div_eq_div_mul]
theorem nxV_gt (R V i : Nat) : V < nxV R V i := (Nat.div_lt_iff_lt_mul (p8 _)).mp (Nat.lt_succ_self _)
theorem dg_lt (R V i : Nat) : dg R V i < 8 := Nat.mod_lt _ (by decide)
theorem dg_same {R V V2 f j : Nat} (hf : f < R) (h1 : V ≤ V2) (h2 : V2 < nxV R V (f + 1)) (hj : j ≤ f) : dg R V2 j = dg R V j := by
  have hp := p8 (R - (f + 1))
  have e : V2 / 8 ^ (R - (f + 1)) = V / 8 ^ (R - (f + 1)) := by
    refine Nat.le_antisymm ?_ (Nat.div_le_div_right h1)
    exact Nat.le_of_lt_succ ((Nat.div_lt_iff_lt_mul hp).mpr h2)
  unfold dg
  rw [show R - (j + 1) = (R - (f + 1)) + (f - j) by omega, dv8, dv8, e]
theorem dg_ex : ∀ (R : Nat) (c : Nat → Nat), (∀ i, i < R → c i < 8) → ∃ V, V < 8 ^ R ∧ ∀ i, i < R → dg R V i = c i
  | 0, c, _ => ⟨0, by decide, fun i hi => by omega⟩
  | R + 1, c, h => by
    obtain ⟨V, h1, h2⟩ := dg_ex R c (fun i hi => h i (by omega))
    have hc := h R (by omega)
    refine ⟨V * 8 + c R, by rw [Nat.pow_succ]; omega, fun i hi => ?_⟩
    unfold dg
    by_cases e : i = R
    · subst e
      rw [show i + 1 - (i + 1) = 0 by omega, Nat.pow_zero, Nat.div_one]; omega
    · have g := h2 i (by omega)
      unfold dg at g
      rw [show R + 1 - (i + 1) = 1 + (R - (i + 1)) by omega, dv8, Nat.pow_one, show (V * 8 + c R) / 8 = V by omega]
      exact g
theorem dg_nx {R V i j : Nat} (hi : i < R) (hj : j < R) (c : dg R V i ≠ 7) : dg R (nxV R V (i + 1)) j = if j < i then dg R V j else if j = i then dg R V i + 1 else 0 := by
  unfold dg at c
  unfold nxV dg
  by_cases c1 : j < i
  · rw [if_pos c1, show R - (j + 1) = (R - (i + 1)) + (1 + (i - j - 1)) by omega, dv8 ((V / 8 ^ (R - (i + 1)) + 1) * 8 ^ (R - (i + 1))), Nat.mul_div_cancel _ (p8 _), dv8 V]
    generalize V / 8 ^ (R - (i + 1)) = W at c ⊢
    rw [dv8, dv8, Nat.pow_one, show (W + 1) / 8 = W / 8 by omega]
  · rw [if_neg c1]
    generalize V / 8 ^ (R - (i + 1)) = W at c ⊢
    by_cases c2 : j = i
    · rw [if_pos c2, c2, Nat.mul_div_cancel _ (p8 _)]; omega
    · rw [if_neg c2, show R - (i + 1) = (j - i - 1) + 1 + (R - (j + 1)) by omega, Nat.pow_add, ← Nat.mul_assoc, Nat.mul_div_cancel _ (p8 _), Nat.pow_succ, ← Nat.mul_assoc, Nat.mul_mod_left]
theorem nx_lt {R V i : Nat} (hV : V < 8 ^ R) (hi : i < R) (c : dg R V i ≠ 7) : nxV R V (i + 1) < 8 ^ R := by
  have e : 8 ^ R = 8 ^ i * 8 * 8 ^ (R - (i + 1)) := by rw [← Nat.pow_succ, ← Nat.pow_add]; congr 1; omega
  have hw : V / 8 ^ (R - (i + 1)) < 8 ^ i * 8 := (Nat.div_lt_iff_lt_mul (p8 _)).mpr (by rw [← e]; exact hV)
  unfold dg at c
  unfold nxV
  rw [e]
  refine Nat.mul_lt_mul_of_pos_right ?_ (p8 _)
  generalize V / 8 ^ (R - (i + 1)) = W at hw c ⊢
  generalize 8 ^ i = A at hw ⊢
  omega
theorem nx_7 {R V i : Nat} (hi : i < R) (c : dg R V i = 7) : nxV R V (i + 1) = nxV R V i := by
  unfold dg at c
  unfold nxV
  rw [show R - i = R - (i + 1) + 1 by omega, dv8, Nat.pow_one, Nat.pow_succ]
  generalize V / 8 ^ (R - (i + 1)) = W at c ⊢
  rw [show W + 1 = (W / 8 + 1) * 8 by omega, Nat.mul_assoc, Nat.mul_comm 8]
theorem nx_0 {R V : Nat} (hV : V < 8 ^ R) : nxV R V 0 = 8 ^ R := by
  unfold nxV
  rw [Nat.sub_zero, Nat.div_eq_of_lt hV, Nat.zero_add, Nat.one_mul]
theorem nx_R (R V : Nat) : nxV R V R = V + 1 := by
  unfold nxV
  rw [Nat.sub_self, Nat.pow_zero, Nat.div_one, Nat.mul_one]
/-! the next choice -/
theorem l_nc27 {R V f : Nat} {x1 : Int32} {Y : St} {Q : Int32 → St → Prop} (hR : R ≤ 6) (hV : V < 8 ^ R) (hf : f < R) (h : ∀ S', frm [] [30] Y S' → (nxV R V (f + 1) < 8 ^ R → ∀ j, j < R → S'.2 30 j = nI (dg R (nxV R V (f + 1)) j)) → Q (if nxV R V (f + 1) < 8 ^ R then 1 else 0) S') :
    ∀ (i : Nat) (S : St), i ≤ f + 1 → frm [] [30] Y S → (∀ j, j < i → S.2 30 j = nI (dg R V j)) → (∀ j, i ≤ j → j < R → S.2 30 j = 0) → nxV R V (f + 1) = nxV R V i → wp_X7_nextChoice_27 x1 Q (i + 1) S (nI i - 1)
  | 0, S, hi, hF, h1, h2, he => by
    rw [nx_0 hV] at he
    have hno : ¬ nxV R V (f + 1) < 8 ^ R := by rw [he]; exact Nat.lt_irrefl _
    have hh := h S hF (fun z => absurd z hno)
    rw [if_neg hno] at hh
    unfold wp_X7_nextChoice_27 wp_X7_nextChoice_55
    exact br_t (by decide) (br_f (by decide) hh)
  | i + 1, S, hi, hF, h1, h2, he => by
    have d := h1 i (by omega)
    have hlt := dg_lt R V i
    have hv : vp_in (nI i) 6 := vp_in_nI (by omega) (by omega)
    rw [nI_pred]
    unfold wp_X7_nextChoice_27
    rw [nI_clamp (n := i) (by omega), d]
    refine br_f (nI_pos (by omega)) ⟨hv, ?_⟩
    by_cases c : dg R V i = 7
    · refine bn_f (by rw [c]; rfl) ⟨hv, fun S7 e7 => ?_⟩
      rw [show nI i + (-1 : Int32) = nI i - 1 from by rw [Int32.sub_eq_add_neg]]
      refine l_nc27 hR hV hf h i S7 (by omega) (hF.tr (by rw [e7]; exact frm.sA 30 _ _)) (fun j hj => ?_) (fun j g1 g2 => ?_) (he.trans (nx_7 (by omega) c))
      · rw [e7, sA_s, upd_n _ _ (by omega)]; exact h1 j (by omega)
      · rw [e7, sA_s]
        by_cases w : j = i
        · rw [w, upd_s]
        · rw [upd_n _ _ w]; exact h2 j (by omega) g2
    · refine bn_t (fun z => c ((nI_inj8 (b := 7) (by omega) (by omega)).mp z)) ?_
      unfold wp_X7_nextChoice_55
      rw [nI_clamp (n := i) (by omega), d, nI_1]
      refine br_t (nI_pos' (by omega)) ⟨hv, hv, fun S4 e4 => ?_⟩
      have hlt' : nxV R V (f + 1) < 8 ^ R := by rw [he]; exact nx_lt hV (by omega) c
      have hh := h S4 (hF.tr (by rw [e4]; exact frm.sA 30 _ _)) (fun _ j hj => ?_)
      · rw [if_pos hlt'] at hh; exact hh
      · rw [he, dg_nx (by omega) hj c, e4, sA_s]
        by_cases w : j = i
        · rw [w, upd_s, if_neg (Nat.lt_irrefl _), if_pos rfl]
        · rw [upd_n _ _ w]
          by_cases w2 : j < i
          · rw [if_pos w2]; exact h1 j (by omega)
          · rw [if_neg w2, if_neg w]; exact h2 j (by omega) hj
theorem l_nc6 {R V f : Nat} {x1 : Int32} {Y : St} {Q : Int32 → St → Prop} (hR : R ≤ 6) (hY : Y.1 29 = nI R) (hf : f < R) (h : ∀ S, frm [] [30] Y S → (∀ j, j < f + 1 → S.2 30 j = nI (dg R V j)) → (∀ j, f + 1 ≤ j → j < R → S.2 30 j = 0) → ∃ n, wp_X7_nextChoice_27 x1 Q n S (nI f)) :
    ∀ (m i : Nat) (S : St), i + m = R → f + 1 ≤ i → frm [] [30] Y S → (∀ j, j < f + 1 → S.2 30 j = nI (dg R V j)) → (∀ j, f + 1 ≤ j → j < i → S.2 30 j = 0) → wp_X7_nextChoice_6 x1 Q (m + 1) S (nI f) (nI i)
  | 0, i, S, hi, hfi, hF, h1, h2 => by
    have : i = R := by omega
    subst this
    unfold wp_X7_nextChoice_6
    rw [hF.1 29 (by decide), hY]
    exact br_t (nI_le (Nat.le_refl _) (by omega)) (h S hF h1 h2)
  | m + 1, i, S, hi, hfi, hF, h1, h2 => by
    unfold wp_X7_nextChoice_6
    rw [hF.1 29 (by decide), hY, nI_clamp (n := i) (by omega), nI_1]
    refine br_f (fun c => by rw [nI_leI (by omega) (by omega)] at c; omega) ⟨vp_in_nI (by omega) (by omega), fun S10 e10 => ?_⟩
    refine l_nc6 hR hY hf h m (i + 1) S10 (by omega) (by omega) (hF.tr (by rw [e10]; exact frm.sA 30 _ _)) (fun j hj => ?_) (fun j g1 g2 => ?_)
    · rw [e10, sA_s, upd_n _ _ (by omega)]; exact h1 j hj
    · rw [e10, sA_s]
      by_cases w : j = i
      · rw [w, upd_s]
      · rw [upd_n _ _ w]; exact h2 j g1 (by omega)
theorem s7_nextChoice {R V f : Nat} {S : St} {Q : Int32 → St → Prop} (hR : R ≤ 6) (hV : V < 8 ^ R) (hf : f < R) (h29 : S.1 29 = nI R) (hc : ∀ j, j < R → S.2 30 j = nI (dg R V j)) (h : ∀ S', frm [] [30] S S' → (nxV R V (f + 1) < 8 ^ R → ∀ j, j < R → S'.2 30 j = nI (dg R (nxV R V (f + 1)) j)) → Q (if nxV R V (f + 1) < 8 ^ R then 1 else 0) S') : wp_X7_nextChoice S (nI f) Q := by
  unfold wp_X7_nextChoice
  rw [nI_1]
  refine ⟨R - (f + 1) + 1, l_nc6 (V := V) hR h29 hf (fun S1 k1 k2 k3 => ⟨f + 1 + 1, ?_⟩) (R - (f + 1)) (f + 1) S (by omega) (Nat.le_refl _) frm.rf (fun j hj => hc j (by omega)) (fun j g1 g2 => by omega)⟩
  have := l_nc27 (x1 := nI f) hR hV hf h (f + 1) S1 (Nat.le_refl _) k1 k2 k3 rfl
  rw [nI_pred] at this
  exact this
/-! the best so far -/
def vld (ps : Nat → Nat) (t : TV) (R V : Nat) : Prop := ∀ j, j < R → vC ps (sq ps (s0L t) (dg R V) j) j (dg R V j) = true
def ldv (ps : Nat → Nat) (t : TV) (R V : Nat) : Nat := (sq ps (s0L t) (dg R V) R).2.2
def bst (ps : Nat → Nat) (t : TV) (R V : Nat) (b : Int32) : Prop := (b = -9 ∧ ∀ V2, V2 < V → V2 < 8 ^ R → ¬ vld ps t R V2) ∨ (∃ r, b = nI r ∧ r ≤ 6 ∧ (∃ V1, V1 < 8 ^ R ∧ vld ps t R V1 ∧ r = ldv ps t R V1) ∧ ∀ V2, V2 < V → V2 < 8 ^ R → vld ps t R V2 → r ≤ ldv ps t R V2)
theorem bst_more {ps : Nat → Nat} {t : TV} {R V V' : Nat} {b : Int32} (h : bst ps t R V b) (hn : ∀ V2, V ≤ V2 → V2 < V' → ¬ vld ps t R V2) : bst ps t R V' b := by
  rcases h with ⟨h1, h2⟩ | ⟨r, h1, h2, h3, h4⟩
  · refine Or.inl ⟨h1, fun V2 k1 k2 => ?_⟩
    rcases Nat.lt_or_ge V2 V with q | q
    · exact h2 V2 q k2
    · exact hn V2 q k1
  · refine Or.inr ⟨r, h1, h2, h3, fun V2 k1 k2 k3 => ?_⟩
    rcases Nat.lt_or_ge V2 V with q | q
    · exact h4 V2 q k2 k3
    · exact absurd k3 (hn V2 q k1)
theorem vld_no {ps : Nat → Nat} {t : TV} {R V V2 f : Nat} (hf : f < R) (h1 : V ≤ V2) (h2 : V2 < nxV R V (f + 1)) (hb : vC ps (sq ps (s0L t) (dg R V) f) f (dg R V f) = false) : ¬ vld ps t R V2 := by
  intro hv
  have := hv f hf
  rw [dg_same hf h1 h2 (Nat.le_refl _), sq_congr (c := dg R V) (c' := dg R V2) (fun j hj => dg_same hf h1 h2 (by omega)), hb] at this
  cases this
theorem ldv_le (ps : Nat → Nat) (t : TV) {R : Nat} (hR : R ≤ 6) (V : Nat) : ldv ps t R V ≤ 6 := by
  have h := (sq_mo (ps := ps) (s0 := s0L t) (c := dg R V) (fun _ => Nat.le_refl _) R).2
  have hz : (s0L t).2.2 = 0 := rfl
  unfold ldv
  omega
theorem bst_good {ps : Nat → Nat} {t : TV} {R V : Nat} {b : Int32} (hV : V < 8 ^ R) (hR : R ≤ 6) (h : bst ps t R V b) (hv : vld ps t R V) : (b < 0 → bst ps t R (V + 1) (nI (ldv ps t R V))) ∧ (¬ b < 0 → (b ≤ nI (ldv ps t R V) → bst ps t R (V + 1) b) ∧ (¬ b ≤ nI (ldv ps t R V) → bst ps t R (V + 1) (nI (ldv ps t R V)))) := by
  have hl := ldv_le ps t hR V
  rcases h with ⟨h1, h2⟩ | ⟨r, h1, h2, h3, h4⟩
  · refine ⟨fun _ => Or.inr ⟨_, rfl, hl, ⟨V, hV, hv, rfl⟩, fun V2 k1 k2 k3 => ?_⟩, fun w => absurd (show b < 0 by rw [h1]; decide) w⟩
    rcases Nat.lt_or_ge V2 V with q | q
    · exact absurd k3 (h2 V2 q k2)
    · have : V2 = V := by omega
      rw [this]; exact Nat.le_refl _
  · refine ⟨fun w => absurd w (by rw [h1]; exact nI_pos (by omega)), fun _ => ⟨fun w => Or.inr ⟨r, h1, h2, h3, fun V2 k1 k2 k3 => ?_⟩, fun w => Or.inr ⟨_, rfl, hl, ⟨V, hV, hv, rfl⟩, fun V2 k1 k2 k3 => ?_⟩⟩⟩
    · rcases Nat.lt_or_ge V2 V with q | q
      · exact h4 V2 q k2 k3
      · have : V2 = V := by omega
        rw [this]
        rw [h1, nI_leI (by omega) (by omega)] at w
        exact w
    · rw [h1, nI_leI (by omega) (by omega)] at w
      rcases Nat.lt_or_ge V2 V with q | q
      · have := h4 V2 q k2 k3
        omega
      · have : V2 = V := by omega
        rw [this]; exact Nat.le_refl _
theorem Ld_V {ps : Nat → Nat} {t : TV} {R v : Nat} (ht : okT t) (hl : tl t ≠ 1) (h : Ld ps R 0 (s0L t) v) : ∃ V, V < 8 ^ R ∧ vld ps t R V ∧ v = ldv ps t R V := by
  obtain ⟨c, _, g2, g3⟩ := Ld_c (t0 := t) (s0 := s0L t) R 0 (fun _ => 0) (okL_0 ht hl) h
  have g2' : ∀ j, j < R → c j < 8 ∧ vC ps (sq ps (s0L t) c j) j (c j) = true := fun j hj => g2 j (Nat.zero_le _) (by omega)
  obtain ⟨V, h1, h2⟩ := dg_ex R c (fun i hi => (g2' i hi).1)
  refine ⟨V, h1, fun j hj => ?_, ?_⟩
  · rw [h2 j hj, sq_congr (c := c) (c' := dg R V) (fun i hi => h2 i (by omega))]
    exact (g2' j hj).2
  · unfold ldv
    rw [sq_congr (c := c) (c' := dg R V) (fun i hi => h2 i hi)]
    rw [Nat.zero_add] at g3
    exact g3
theorem V_Ld {ps : Nat → Nat} {t : TV} {R V : Nat} (h : vld ps t R V) : Ld ps R 0 (s0L t) (ldv ps t R V) := by
  have := c_Ld (ps := ps) (s0 := s0L t) (c := dg R V) R 0 (fun j _ hj => h j (by omega))
  rw [Nat.zero_add] at this
  exact this
theorem bst_isL {ps : Nat → Nat} {t : TV} {R : Nat} {b : Int32} (ht : okT t) (hl : tl t ≠ 1) (h : bst ps t R (8 ^ R) b) : isL ps R (s0L t) b := by
  rcases h with ⟨h1, h2⟩ | ⟨r, h1, h2, ⟨V1, k1, k2, k3⟩, h4⟩
  · refine Or.inr ⟨h1, fun v hv => ?_⟩
    obtain ⟨V, q1, q2, q3⟩ := Ld_V ht hl hv
    exact h2 V q1 q1 q2
  · refine Or.inl ⟨r, h1, by rw [k3]; exact V_Ld k2, fun v hv => ?_⟩
    obtain ⟨V, q1, q2, q3⟩ := Ld_V ht hl hv
    rw [q3]
    exact h4 V q1 q1 q2
theorem isL_u {ps : Nat → Nat} {R : Nat} {s0 : LSt} {v v' : Int32} (h : isL ps R s0 v) (h' : isL ps R s0 v') : v = v' := by
  rcases h with ⟨r, h1, h2, h3⟩ | ⟨h1, h2⟩
  · rcases h' with ⟨r', k1, k2, k3⟩ | ⟨k1, k2⟩
    · have e1 := h3 r' k2
      have e2 := k3 r h2
      have : r = r' := by omega
      rw [h1, k1, this]
    · exact absurd h2 (k2 r)
  · rcases h' with ⟨r', k1, k2, k3⟩ | ⟨k1, k2⟩
    · exact absurd k2 (h2 r')
    · rw [h1, k1]
/-! all choices -/
def lz7 (Y S : St) (t : TV) : Prop := absF (flM S) t ∧ frm [5, 6, 17, 18, 32] [1, 2, 3, 4, 15, 30, 31] Y S ∧ ∀ q, q < 34 → S.2 15 q = Y.2 15 q
theorem lz7.lf {Y S S' : St} {t : TV} (h : lz7 Y S t) (h' : lf7 S S' t) : lz7 Y S' t := ⟨h'.1, h.2.1.tr (h'.2.1.mono (fun s z => z) (fun s z => by simp at z ⊢; omega)), fun q hq => (h'.2.2 q hq).trans (h.2.2 q hq)⟩
theorem lz7.nc {Y S S' : St} {t : TV} (h : lz7 Y S t) (h' : frm [] [30] S S') : lz7 Y S' t := ⟨flM_frm h' (by decide) (by decide) h.1, h.2.1.tr (h'.mono (fun s z => absurd z List.not_mem_nil) (fun s z => by simp at z ⊢; omega)), fun q hq => by rw [h'.2 15 (by decide)]; exact h.2.2 q hq⟩
theorem l7_l50 {Y : St} {t : TV} {ps : Nat → Nat} {R : Nat} {Q : Int32 → St → Prop} (ht : okT t) (hl : tl t ≠ 1) (hR : R ≤ 6) (hR0 : 0 < R) (h29 : Y.1 29 = nI R) (hp : ∀ i, i < R → ps i < 100 ∧ Y.2 27 i = nI (ps i)) (hQ : ∀ b S, bst ps t R (8 ^ R) b → lz7 Y S t → Q b S) :
    ∀ (d V : Nat), 8 ^ R ≤ V + d → ∃ n, ∀ S b, lz7 Y S t → bst ps t R V b → (V < 8 ^ R → ∀ j, j < R → S.2 30 j = nI (dg R V j)) → wp_X7_load_50 Q n S b (if V < 8 ^ R then 1 else 0) := by
  have hend : ∀ V, ¬ V < 8 ^ R → ∃ n, ∀ S b, lz7 Y S t → bst ps t R V b → (V < 8 ^ R → ∀ j, j < R → S.2 30 j = nI (dg R V j)) → wp_X7_load_50 Q n S b (if V < 8 ^ R then 1 else 0) := by
    intro V c
    refine ⟨1, fun S b hS hb _ => ?_⟩
    rw [if_neg c]
    unfold wp_X7_load_50
    exact br_t rfl (hQ b S (bst_more hb (fun V2 k1 k2 => absurd (Nat.lt_of_le_of_lt k1 k2) c)) hS)
  intro d
  induction d with
  | zero => intro V hd; exact hend V (Nat.not_lt.mpr hd)
  | succ d ih =>
    intro V hd
    by_cases c : V < 8 ^ R
    · have hr : ∀ S, lz7 Y S t → (∀ j, j < R → S.2 30 j = nI (dg R V j)) → rw7 S ps (dg R V) R := fun S hS hc => ⟨(hS.2.1.1 29 (by decide)).trans h29, fun i hi => ⟨(hp i hi).1, by rw [hS.2.1.2 27 (by decide)]; exact (hp i hi).2⟩, fun i hi => ⟨dg_lt R V i, hc i hi⟩⟩
      rcases dich2 (fun j => vC ps (sq ps (s0L t) (dg R V) j) j (dg R V j) = true) R with ⟨f, hfR, hf1, hf2⟩ | hv
      · have hf2' : vC ps (sq ps (s0L t) (dg R V) f) f (dg R V f) = false := by simpa using hf2
        have hg := nxV_gt R V (f + 1)
        obtain ⟨n, hn⟩ := ih (nxV R V (f + 1)) (by omega)
        refine ⟨n + 1, fun S b hS hb hc => ?_⟩
        have hc' := hc c
        rw [if_pos c]
        unfold wp_X7_load_50
        refine br_f (by decide) (s7_loadBy hS.1 ht hl hR (hr S hS hc') (fun w => absurd (w f hfR) hf2) (fun f' g1 g2 g3 S' g4 g5 => ?_))
        have ef : f' = f := by
          rcases Nat.lt_trichotomy f' f with q | q | q
          · have := hf1 f' q
            rw [this] at g3; cases g3
          · exact q
          · exact absurd (g2 f q) hf2
        have hS' := hS.lf g4
        have k29 : S'.1 29 = nI R := (hS'.2.1.1 29 (by decide)).trans h29
        refine br_t (by decide) ?_
        unfold wp_X7_load_74
        rw [g5, ef, k29]
        refine bn_t (fun z => by have := (nI_inj8 (by omega) (by omega)).mp z; omega) (s7_nextChoice hR c hfR k29 (fun j hj => by rw [g4.2.1.2 30 (by decide)]; exact hc' j hj) (fun S2 k1 k2 => hn S2 b (hS'.nc k1) (bst_more hb (fun V2 q1 q2 => vld_no hfR q1 q2 hf2')) k2))
      · have hv' : vld ps t R V := hv
        obtain ⟨n, hn⟩ := ih (V + 1) (by omega)
        refine ⟨n + 1, fun S b hS hb hc => ?_⟩
        have hc' := hc c
        have hl6 := ldv_le ps t hR V
        rw [if_pos c]
        unfold wp_X7_load_50
        refine br_f (by decide) (s7_loadBy hS.1 ht hl hR (hr S hS hc') (fun _ S' g4 g5 => ?_) (fun f' g1 g2 g3 => by have := hv f' g1; rw [this] at g3; cases g3))
        have hS' := hS.lf g4
        have k29 : S'.1 29 = nI R := (hS'.2.1.1 29 (by decide)).trans h29
        have k74 : ∀ b', bst ps t R (V + 1) b' → wp_X7_load_74 (fun s0 v0 v1 => wp_X7_load_50 Q n s0 v0 v1) Q S' b' := by
          intro b' hb'
          unfold wp_X7_load_74
          rw [g5, k29, show nI R - (1 : Int32) = nI (R - 1) from pk_sub (b := 1) (by omega)]
          refine bn_f rfl (s7_nextChoice (V := V) (f := R - 1) hR c (by omega) k29 (fun j hj => by rw [g4.2.1.2 30 (by decide)]; exact hc' j hj) (fun S2 k1 k2 => ?_))
          rw [show R - 1 + 1 = R by omega, nx_R] at k2 ⊢
          exact hn S2 b' (hS'.nc k1) hb' k2
        obtain ⟨q1, q2⟩ := bst_good c hR hb hv'
        show (nI (ldv ps t R V) < 0 → _) ∧ (¬ nI (ldv ps t R V) < 0 → (b < 0 → wp_X7_load_74 _ _ _ (nI (ldv ps t R V))) ∧ (¬ b < 0 → (b ≤ nI (ldv ps t R V) → _) ∧ (¬ b ≤ nI (ldv ps t R V) → wp_X7_load_74 _ _ _ (nI (ldv ps t R V)))))
        refine br_f (nI_pos (by omega)) ?_
        by_cases w : b < 0
        · exact br_t w (k74 _ (q1 w))
        · refine br_f w ?_
          by_cases w2 : b ≤ nI (ldv ps t R V)
          · exact br_t w2 (k74 _ ((q2 w).1 w2))
          · exact br_f w2 (k74 _ ((q2 w).2 w2))
    · exact hend V c
theorem s7_l50 {Y : St} {t : TV} {ps : Nat → Nat} {R : Nat} {Q : Int32 → St → Prop} (ht : okT t) (hl : tl t ≠ 1) (hR : R ≤ 6) (hR0 : 0 < R) (h29 : Y.1 29 = nI R) (hp : ∀ i, i < R → ps i < 100 ∧ Y.2 27 i = nI (ps i)) (hF : absF (flM Y) t) (hz : ∀ j, j < R → Y.2 30 j = 0) (hQ : ∀ b S, bst ps t R (8 ^ R) b → lz7 Y S t → Q b S) : ∃ n, wp_X7_load_50 Q n Y (-9) 1 := by
  obtain ⟨n, hn⟩ := l7_l50 ht hl hR hR0 h29 hp hQ (8 ^ R) 0 (by omega)
  have := hn Y (-9) ⟨hF, frm.rf, fun _ _ => rfl⟩ (Or.inl ⟨rfl, fun V2 h => absurd h (Nat.not_lt_zero _)⟩) (fun _ j hj => by rw [hz j hj]; unfold dg; rw [Nat.zero_div]; rfl)
  rw [if_pos (p8 _)] at this
  exact ⟨n, this⟩
theorem l7_l17 {Y : St} {Q : Int32 → St → Prop} (h : ∀ S, frm [] [30] Y S → (∀ j, j < 6 → S.2 30 j = 0) → ((¬ S.1 29 = 0 → ∃ i, wp_X7_load_50 Q i S (-9 : Int32) (1 : Int32)) ∧ (S.1 29 = 0 → Q (0 : Int32) S))) :
    ∀ (m i : Nat) (S : St), i + m = 6 → frm [] [30] Y S → (∀ j, j < i → S.2 30 j = 0) → wp_X7_load_17 Q (m + 1) S (nI i)
  | 0, i, S, hi, hS, hz => by
    have : i = 6 := by omega
    subst this
    unfold wp_X7_load_17
    exact br_t (by decide) (h S hS hz)
  | m + 1, i, S, hi, hS, hz => by
    unfold wp_X7_load_17
    rw [nI_clamp (n := i) (by omega), nI_1]
    refine br_f (fun c => by rw [show (6 : Int32) = nI 6 from rfl, nI_leI (by omega) (by omega)] at c; omega) ⟨vp_in_nI (by omega) (by omega), fun S16 e16 => ?_⟩
    rw [e16]
    refine l7_l17 h m (i + 1) _ (by omega) (hS.tr (frm.sA 30 _ _)) (fun j hj => ?_)
    rw [sA_s]
    by_cases c : j = i
    · rw [c, upd_s]
    · rw [upd_n _ _ c]; exact hz j (by omega)
theorem ls_load : LS_21 Inv := by
  rintro X Y ⟨G, hG, hX, hY⟩
  obtain ⟨x1, x2, x3, x4, x5, x6, x7, x8⟩ := id hX
  obtain ⟨y1, y2, y3, y4, y5, y6, y7, y8⟩ := id hY
  have ht := hG.1
  have hl2 := ht.2.1
  have hR := hG.2.2.2.1
  obtain ⟨ps, hps⟩ := row_ps hG
  have e6 : Y.1 6 = nI (tl (gt G)) := y1.2.1
  unfold wp_X6_load
  rw [x1.2.1]
  by_cases c : tl (gt G) = 1
  · refine bn_f (by rw [c]; rfl) (s_refuse (k := 3) rfl (by omega) hX (fun X2 g1 => ?_))
    unfold wp_X7_load
    rw [e6]
    exact bn_f (by rw [c]; rfl) (s7_no (k := 3) rfl (by omega) hY (fun Y2 g2 => ⟨rfl, _, hG.rf 3, g1, g2⟩))
  · refine bn_t (fun z => c ((nI_inj8 (b := 1) (by omega) (by omega)).mp z)) ?_
    show wp_X1_leastLoad (X.2.2.2.2.2.2.1, X.2.2.2.2.2.2.2) X.2.1 _
    refine s_leastLoad (ps := ps) x6 hR (fun i hi => ⟨(hps i hi).1, (x7 i hi).trans (hps i hi).2⟩) x1 ht c (fun v M' hv S6 e6' => ?_)
    have hX6 : absX S6 G := by rw [e6']; exact hX
    unfold wp_X7_load
    rw [e6]
    refine bn_t (fun z => c ((nI_inj8 (b := 1) (by omega) (by omega)).mp z)) ⟨7, l7_l17 (fun S fr hz => ?_) 6 0 Y rfl frm.rf (fun j hj => absurd hj (Nat.not_lt_zero _))⟩
    have s29 : S.1 29 = nI (gR G) := (fr.1 29 (by decide)).trans y6
    rw [s29]
    by_cases c0 : gR G = 0
    · have h0 : isL ps (gR G) (s0L (gt G)) 0 := by rw [c0]; exact Or.inl ⟨0, rfl, rfl, fun v' _ => Nat.zero_le _⟩
      exact bn_f (by rw [c0]; rfl) ⟨isL_u hv h0, G, hG, hX6, absY.scr hG hY fr (by decide) (by decide) (fun q _ => by rw [fr.2 15 (by decide)])⟩
    · refine bn_t (nI_ne0 (by omega) (by omega)) (s7_l50 (t := gt G) (ps := ps) (R := gR G) ht c hR (by omega) s29 (fun i hi => ⟨(hps i hi).1, by rw [fr.2 27 (by decide)]; exact (y7 i hi).trans (hps i hi).2⟩) (flM_frm fr (by decide) (by decide) y1) (fun j hj => hz j (by omega)) (fun b S2 hb hS2 => ⟨isL_u hv (bst_isL ht c hb), G, hG, hX6, ?_⟩))
      exact absY.of (t := gt G) hG hY hS2.1 ((fr.mono (fun s z => absurd z List.not_mem_nil) (fun s z => by simp at z ⊢; omega)).tr hS2.2.1) (by decide) (by decide) (fun q hq => by rw [hS2.2.2 q hq, fr.2 15 (by decide)])
