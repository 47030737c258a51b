/-! the fewest, the reference -/
theorem s7_doAll {Y : St} {t : TV} {Q : Int32 → St → Prop} (hF : absF (flM Y) t) (ht : okT t) (hQ : ∀ T, absF (flM T) t → fdd Y T → Q (b2i (fl (P0 t).1 (fin (P0 t) (te t)))) T) : wp_X7_doAll Y Q := by
  unfold wp_X7_doAll
  refine s7_closes0 hF ht (fun T f2 _ _ _ => ?_)
  have hFT : absF (flM T) t := flM_frm f2 (by decide) (by decide) hF
  have hh := hQ T hFT (f2.mono (fun s z => z) (fun s z => List.mem_cons_of_mem _ z))
  rw [show T.1 5 = nI (P0 t).1 from hFT.1]
  unfold fl at hh
  by_cases c : nI (pE (fin (P0 t) (te t)) (P0 t).1) = (nI (P0 t).1 * (nI (P0 t).1 - (1 : Int32))) / (2 : Int32)
  · rw [decide_eq_true c] at hh; exact bn_f c hh
  · rw [decide_eq_false c] at hh; exact bn_t c hh
theorem gP_t {n p : Nat} {f : EE} (h : gP n f p = true) : isP n p = true ∧ f (p / 10) (p % 10) = true := by
  unfold gP at h
  rwa [Bool.and_eq_true] at h
def opn (L : List Nat) (i : Nat) (t : TV) : Prop := ∀ k, i ≤ k → k < L.length → isP (tn t) (L.getD k 0) = true ∧ te t (L.getD k 0 / 10) (L.getD k 0 % 10) = false
def dst (L : List Nat) : Prop := ∀ i k, i < k → k < L.length → L.getD k 0 ≠ L.getD i 0
def plT (t : TV) (p : Nat) : TV := addT t (p / 10) (p % 10)
theorem plT_P (t : TV) (p : Nat) : P0 (plT t p) = P0 t := rfl
theorem plT_e (t : TV) (p : Nat) : te (plT t p) = pAd (te t) p := rfl
theorem opn_ok {L : List Nat} {i : Nat} {t : TV} (ht : okT t) (h : opn L i t) (hi : i < L.length) : okT (plT t (L.getD i 0)) := by
  have g := isP_iff.mp (h i (Nat.le_refl _) hi).1
  exact ht.add (by omega) g.2 (by omega)
theorem opn_add {L : List Nat} (hd : dst L) {i : Nat} {t : TV} (h : opn L i t) (hi : i < L.length) : opn L (i + 1) (plT t (L.getD i 0)) := by
  intro k hk hkl
  have h1 := h i (Nat.le_refl _) hi
  have h2 := h k (by omega) hkl
  refine ⟨h2.1, ?_⟩
  show (te t _ _ || _) = false
  rw [h2.2, p_ne h1.1 h2.1 (fun e => hd i k (by omega) hkl e.symm)]; rfl
theorem opn_s {L : List Nat} {i : Nat} {t : TV} (h : opn L i t) : opn L (i + 1) t := fun k hk hkl => h k (by omega) hkl
theorem s7_put {Y T : St} {L : List Nat} {t : TV} {i : Nat} {Q : St → Prop} (hfd : fnd Y L L.length) (hf : fdd Y T) (hF : absF (flM T) t) (ht : okT t) (h : opn L i t) (hi : i < L.length) (hQ : ∀ T', absF (flM T') (plT t (L.getD i 0)) → fdd Y T' → Q T') : wp_X7_joins T (T.2 23 i) (T.2 24 i) Q := by
  have g := isP_iff.mp (h i (Nat.le_refl _) hi).1
  have hd := (fnd_fr hfd hf).2 i hi
  rw [hd.1, hd.2]
  exact s7_joins hF ht (by omega) g.2 (by omega) (fun T' h1 h2 => hQ T' h1 (hf.tr (f4 h2)))
theorem s7_take {Y T : St} {L : List Nat} {t : TV} {i : Nat} {Q : St → Prop} (hfd : fnd Y L L.length) (hf : fdd Y T) (ht : okT t) (h : opn L i t) (hi : i < L.length) (hF : absF (flM T) (plT t (L.getD i 0))) (hQ : ∀ T', absF (flM T') t → fdd Y T' → Q T') : wp_X7_parts T (T.2 23 i) (T.2 24 i) Q := by
  have g := isP_iff.mp (h i (Nat.le_refl _) hi).1
  have hd := (fnd_fr hfd hf).2 i hi
  rw [hd.1, hd.2]
  refine s7_parts hF (opn_ok ht h hi) (show _ < tn t by omega) g.2 (by omega) (fun T' h1 h2 => hQ T' ?_ (hf.tr (f4 h2)))
  unfold plT at h1
  rw [remT_add ht (h i (Nat.le_refl _) hi).2] at h1
  exact h1
theorem l7_one {Y : St} {L : List Nat} (hL : L.length ≤ 28) (hfd : fnd Y L L.length) (hds : dst L) {t : TV} {x1 : Int32} {V : Bool} {Q : Int32 → St → Prop} (ht : okT t) (hQ : ∀ T, absF (flM T) t → fdd Y T → Q (b2i V) T) :
    ∀ (m i : Nat) (T : St), i + m = L.length → opn L i t → absF (flM T) t → fdd Y T → DB (P0 t) (L.drop i) 1 (te t) = V → wp_X7_doAllWithOneMore_2 x1 Q (m + 1) T (nI i)
  | 0, i, T, hi, ho, hF, hf, hV => by
    have e : i = L.length := by omega
    subst e
    unfold wp_X7_doAllWithOneMore_2
    rw [show T.1 25 = nI L.length from (fnd_fr hfd hf).1]
    rw [List.drop_length, DB_n] at hV
    have := hQ T hF hf
    rw [← hV] at this
    exact br_t (nI_le (Nat.le_refl _) (by omega)) this
  | m + 1, i, T, hi, ho, hF, hf, hV => by
    have hil : i < L.length := by omega
    have hv : vp_in (nI i) 28 := vp_in_nI (by omega) (by omega)
    have ih := l7_one (x1 := x1) hL hfd hds ht hQ m (i + 1)
    unfold wp_X7_doAllWithOneMore_2
    rw [show T.1 25 = nI L.length from (fnd_fr hfd hf).1, nI_clamp (n := i) (by omega), nI_1 i]
    rw [drop_d hil, DB_c, DB_0] at hV
    refine br_f (fun c => by rw [nI_leI (by omega) (by omega)] at c; omega) ⟨hv, hv, s7_put hfd hf hF ht ho hil (fun T2 h2 f2 => s7_doAll h2 (opn_ok ht ho hil) (fun T3 h3 f3 => ⟨hv, hv, s7_take hfd (f2.tr f3) ht ho hil h3 (fun T4 h4 f5 => ?_)⟩))⟩
    rw [plT_P, plT_e]
    refine bb (fun c => ?_) (fun c => ?_)
    · rw [c, Bool.false_or] at hV
      exact ih T4 (by omega) (opn_s ho) h4 f5 hV
    · rw [c, Bool.true_or] at hV
      have := hQ T4 h4 f5
      rw [← hV] at this
      exact this
theorem l7_with {Y : St} {L : List Nat} (hL : L.length ≤ 28) (hfd : fnd Y L L.length) (hds : dst L) {t : TV} {k : Nat} (hk : k ≤ 1) {x2 : Int32} {V : Bool} {Q : Int32 → St → Prop} (ht : okT t) (hQ : ∀ T, absF (flM T) t → fdd Y T → Q (b2i V) T) :
    ∀ (m i : Nat) (T : St), i + m = L.length → opn L i t → absF (flM T) t → fdd Y T → DB (P0 t) (L.drop i) (k + 1) (te t) = V → wp_X7_doAllWith_11 (nI (k + 1)) x2 Q (m + 1) T (nI i)
  | 0, i, T, hi, ho, hF, hf, hV => by
    have e : i = L.length := by omega
    subst e
    unfold wp_X7_doAllWith_11
    rw [show T.1 25 = nI L.length from (fnd_fr hfd hf).1]
    rw [List.drop_length, DB_n] at hV
    have := hQ T hF hf
    rw [← hV] at this
    exact br_t (nI_le (Nat.le_refl _) (by omega)) this
  | m + 1, i, T, hi, ho, hF, hf, hV => by
    have hil : i < L.length := by omega
    have hv : vp_in (nI i) 28 := vp_in_nI (by omega) (by omega)
    have ih := l7_with (x2 := x2) hL hfd hds hk ht hQ m (i + 1)
    have back : ∀ (T3 : St), absF (flM T3) (plT t (L.getD i 0)) → fdd Y T3 → wp_X7_doAllWith_54 (fun s0 v0 => wp_X7_doAllWith_11 (nI (k + 1)) x2 Q (m + 1) s0 v0) (nI (k + 1)) x2 Q T3 (nI i) (b2i (DB (P0 t) (L.drop (i + 1)) k (pAd (te t) (L.getD i 0)))) := by
      intro T3 h3 f3
      unfold wp_X7_doAllWith_54
      rw [nI_clamp (n := i) (by omega), nI_1 i]
      refine ⟨hv, hv, s7_take hfd f3 ht ho hil h3 (fun T4 h4 f5 => ?_)⟩
      rw [drop_d hil, DB_c] at hV
      refine bb (fun c => ?_) (fun c => ?_)
      · rw [c, Bool.false_or] at hV
        exact ih T4 (by omega) (opn_s ho) h4 f5 hV
      · rw [c, Bool.true_or] at hV
        have := hQ T4 h4 f5
        rw [← hV] at this
        exact this
    unfold wp_X7_doAllWith_11
    rw [show T.1 25 = nI L.length from (fnd_fr hfd hf).1, nI_clamp (n := i) (by omega), nI_1 i]
    refine br_f (fun c => by rw [nI_leI (by omega) (by omega)] at c; omega) ⟨hv, hv, s7_put hfd hf hF ht ho hil (fun T2 h2 f2 => ?_)⟩
    rcases (show k = 0 ∨ k = 1 by omega) with e | e
    · subst e
      refine bn_f rfl (s7_doAll h2 (opn_ok ht ho hil) (fun T3 h3 f3 => ?_))
      have := back T3 h3 (f2.tr f3)
      rw [DB_0] at this
      exact this
    · subst e
      refine bn_t (by decide) ⟨L.length - (i + 1) + 1, l7_one (t := plT t (L.getD i 0)) hL hfd hds (opn_ok ht ho hil) (fun T3 h3 f3 => back T3 h3 f3) _ (i + 1) T2 (by omega) (opn_add hds ho hil) h2 f2 rfl⟩
theorem s7_with {Y : St} {L : List Nat} (hL : L.length ≤ 28) (hfd : fnd Y L L.length) (hds : dst L) {t : TV} {k i : Nat} (hk : k ≤ 2) {Q : Int32 → St → Prop} {T : St} (ht : okT t) (hi : i ≤ L.length) (ho : opn L i t) (hF : absF (flM T) t) (hf : fdd Y T) (hQ : ∀ T, absF (flM T) t → fdd Y T → Q (b2i (DB (P0 t) (L.drop i) k (te t))) T) : wp_X7_doAllWith T (nI k) (nI i) Q := by
  unfold wp_X7_doAllWith
  rcases Nat.eq_zero_or_pos k with e | e
  · subst e
    refine bn_f rfl (s7_doAll hF ht (fun T3 h3 f3 => ⟨b2i_bz _, ?_⟩))
    have := hQ T3 h3 (hf.tr f3)
    rw [DB_0] at this
    exact this
  · obtain ⟨k', rfl⟩ : ∃ k', k = k' + 1 := ⟨k - 1, by omega⟩
    refine bn_t (fun z => by have := (nI_inj8 (b := 0) (by omega) (by omega)).mp z; omega) ⟨L.length - i + 1, l7_with hL hfd hds (by omega) ht hQ _ i T (by omega) ho hF hf rfl⟩
theorem l7_29 {Y : St} {L : List Nat} (hL : L.length ≤ 28) (hfd : fnd Y L L.length) (hds : dst L) {t : TV} {k : Nat} (hk : k ≤ 2) {c : Int32} {K : St → Int32 → Prop} {Q : Int32 → St → Prop} (ht : okT t) (hK : c = -9 → ∀ T, absF (flM T) t → fdd Y T → K T (nI (k + 1 + 1))) (hQ : ¬ c = -9 → ∀ T, absF (flM T) t → frm [22, 26] [4, 19, 20, 21] Y T → T.1 26 = c → Q (nI (k + 1)) T) :
    ∀ (m i : Nat) (T : St), i + m = L.length → opn L i t → absF (flM T) t → fdd Y T → DF (P0 t) (L.drop i) k (te t) = c → wp_X7_fewestOf_29 K Q (m + 1) T (nI (k + 1)) (nI i)
  | 0, i, T, hi, ho, hF, hf, hV => by
    have e : i = L.length := by omega
    subst e
    unfold wp_X7_fewestOf_29
    rw [show T.1 25 = nI L.length from (fnd_fr hfd hf).1, nI_1 (k + 1)]
    rw [List.drop_length] at hV
    exact br_t (nI_le (Nat.le_refl _) (by omega)) (hK hV.symm T hF hf)
  | m + 1, i, T, hi, ho, hF, hf, hV => by
    have hil : i < L.length := by omega
    have hv : vp_in (nI i) 28 := vp_in_nI (by omega) (by omega)
    have ih := l7_29 hL hfd hds hk ht hK hQ m (i + 1)
    have g := isP_iff.mp (ho i (Nat.le_refl _) hil).1
    have hn := ht.1
    unfold wp_X7_fewestOf_29
    rw [show T.1 25 = nI L.length from (fnd_fr hfd hf).1, nI_clamp (n := i) (by omega), nI_1 i, show nI (k + 1) - (1 : Int32) = nI k from pk_sub (b := 1) (by omega)]
    rw [drop_d hil, DF_c] at hV
    refine br_f (fun c => by rw [nI_leI (by omega) (by omega)] at c; omega) ⟨hv, hv, s7_put hfd hf hF ht ho hil (fun T2 h2 f2 => s7_with hL hfd hds hk (opn_ok ht ho hil) (by omega) (opn_add hds ho hil) h2 f2 (fun T3 h3 f3 => ⟨hv, hv, s7_take hfd f3 ht ho hil h3 (fun T4 h4 f5 => ?_)⟩))⟩
    rw [plT_P, plT_e]
    refine bb' (fun w => ⟨hv, hv, fun S17 e17 => ?_⟩) (fun w => ?_)
    · rw [w, if_pos rfl] at hV
      have hp9 : ¬ c = -9 := by rw [← hV]; exact nI_9 (by omega)
      have hd := (fnd_fr hfd f5).2 i hil
      refine hQ hp9 S17 (flM_frm (is := [26]) (as := []) (by rw [e17]; exact frm.sI 26 _) (by decide) (by decide) h4) ?_ ?_
      · rw [e17]
        exact (f5.mono (fun s z => by simp at z; simp [z]) (fun s z => z)).tr ((frm.sI 26 _).mono (fun s z => by simp at z; simp [z]) (fun s z => absurd z List.not_mem_nil))
      · rw [e17, sI_s, hd.1, hd.2, show (10 : Int32) * nI (L.getD i 0 / 10) = nI (10 * (L.getD i 0 / 10)) from pk_mul 10 _, nI_add, ← hV, show 10 * (L.getD i 0 / 10) + L.getD i 0 % 10 = L.getD i 0 by omega]
    · rw [w, if_neg (by decide)] at hV
      exact ih T4 (by omega) (opn_s ho) h4 f5 hV
theorem l7_22 {Y : St} {L : List Nat} (hL : L.length ≤ 28) (hfd : fnd Y L L.length) (hds : dst L) {t : TV} {V1 V2 : Int32} {Q : Int32 → St → Prop} (ht : okT t) (ho : opn L 0 t) (h26 : Y.1 26 = -9) (hQ : ∀ T, absF (flM T) t → frm [22, 26] [4, 19, 20, 21] Y T → T.1 26 = V2 → Q V1 T) :
    ∀ (m k : Nat) (T : St), k + m = 3 → absF (flM T) t → fdd Y T → wA (fun k => DF (P0 t) L k (te t)) m k = V1 → wF (fun k => DF (P0 t) L k (te t)) m k = V2 → wp_X7_fewestOf_22 Q (m + 1) T (nI (k + 1))
  | 0, k, T, hk, hF, hf, h1, h2 => by
    have e : k = 3 := by omega
    subst e
    unfold wp_X7_fewestOf_22
    have h1' : (-9 : Int32) = V1 := h1
    have h2' : (-9 : Int32) = V2 := h2
    refine br_t (by decide) ?_
    rw [h1']
    exact hQ T hF (hf.mono (fun s z => by simp at z; simp [z]) (fun s z => z)) (by rw [hf.1 26 (by decide), h26, h2'])
  | m + 1, k, T, hk, hF, hf, h1, h2 => by
    unfold wp_X7_fewestOf_22
    rw [wA_s] at h1
    rw [wF_s] at h2
    refine br_f (fun c => by rw [show (4 : Int32) = nI 4 from rfl, nI_leI (by omega) (by omega)] at c; omega) ⟨L.length + 1, l7_29 (c := DF (P0 t) L k (te t)) hL hfd hds (by omega) ht (fun c T2 h3 f3 => ?_) (fun c T2 h3 f3 h4 => ?_) L.length 0 T (by omega) ho hF hf rfl⟩
    · rw [if_pos c] at h1 h2
      exact l7_22 hL hfd hds ht ho h26 hQ m (k + 1) T2 (by omega) h3 f3 h1 h2
    · rw [if_neg c] at h1 h2
      rw [h1]
      exact hQ T2 h3 f3 (by rw [h4, h2])
theorem s7_fewestOf {Y : St} {t : TV} {Q : Int32 → St → Prop} (hF : absF (flM Y) t) (ht : okT t)
    (hQ0 : fl (P0 t).1 (fin (P0 t) (te t)) = true → ∀ T, absF (flM T) t → frm [22, 25, 26] [4, 19, 20, 21, 23, 24] Y T → T.1 26 = -9 → Q 0 T)
    (hQ : fl (P0 t).1 (fin (P0 t) (te t)) = false → ∀ T, absF (flM T) t → frm [22, 25, 26] [4, 19, 20, 21, 23, 24] Y T → T.1 26 = wF (fun k => DF (P0 t) (rl (gP (tn t) (fun a b => !te t a b)) 1) k (te t)) 3 0 → Q (wA (fun k => DF (P0 t) (rl (gP (tn t) (fun a b => !te t a b)) 1) k (te t)) 3 0) T) : wp_X7_fewestOf Y Q := by
  intro S1 e1
  have f1 : frm [26] [] Y S1 := by rw [e1]; exact frm.sI 26 _
  have h1 : S1.1 26 = -9 := by rw [e1, sI_s]
  refine s7_doAll (flM_frm f1 (by decide) (by decide) hF) ht (fun T h2 f2 => ?_)
  have fT : frm [22, 25, 26] [4, 19, 20, 21, 23, 24] Y T := (f1.mono (fun s z => by simp at z; simp [z]) (fun s z => absurd z List.not_mem_nil)).tr (f2.mono (fun s z => by simp at z; simp [z]) (fun s z => by simp at z ⊢; omega))
  have h26 : T.1 26 = -9 := by rw [f2.1 26 (by decide)]; exact h1
  refine bb (fun c => ?_) (fun c => ?_)
  · refine s7_findPairs (c := false) (f := fun a b => !te t a b) h2 ht (fun a b => by simp) (fun T2 f3 hfd => ⟨4, l7_22 (gP_28 ht.1 _) hfd (fun i k h1 h2 => Nat.ne_of_gt (getD_lt (pl_pw _ _ _) h1 h2)) ht (fun k _ hk => ?_) (by rw [f3.1 26 (by decide)]; exact h26) (fun T3 h3 f4 h5 => hQ c T3 h3 ?_ h5) 3 0 T2 rfl (flM_frm f3 (by decide) (by decide) h2) frm.rf rfl rfl⟩)
    · have := gP_t (rl_mem (getD_mem hk)).1
      exact ⟨this.1, (Bool.not_eq_true' _).mp this.2⟩
    · exact (fT.tr (f3.mono (fun s z => by simp at z; simp [z]) (fun s z => by simp at z ⊢; omega))).tr (f4.mono (fun s z => by simp at z ⊢; omega) (fun s z => by simp at z ⊢; omega))
  · exact hQ0 c T h2 fT h26
theorem fewest_eq {t : TV} (ht : okT t) (h : fl (P0 t).1 (fin (P0 t) (te t)) = false) :
    wA (fun k => CF (P0 t) (rl (isP (tn t)) 1) k (fin (P0 t) (te t))) 3 0 = wA (fun k => DF (P0 t) (rl (gP (tn t) (fun a b => !te t a b)) 1) k (te t)) 3 0 ∧ wF (fun k => CF (P0 t) (rl (isP (tn t)) 1) k (fin (P0 t) (te t))) 3 0 = wF (fun k => DF (P0 t) (rl (gP (tn t) (fun a b => !te t a b)) 1) k (te t)) 3 0 := by
  have eL : rl (gP (tn t) (fun a b => !te t a b)) 1 = (rl (isP (tn t)) 1).filter (fun p => !pIn (te t) p) := pl_filter (isP (tn t)) (fun p => !pIn (te t) p) 99 1
  refine w_eq (fun k hk => ?_) 3 0 (fun j hj => by omega)
  rw [eL] at hk ⊢
  refine CF_DF (okP0 ht) (okTE ht) (rl (isP (tn t)) 1) (fun p hp => (rl_mem hp).1) (fun j hj => ?_)
  rcases Nat.eq_zero_or_pos j with e | e
  · subst e; rw [DB_0]; exact h
  · obtain ⟨j', rfl⟩ : ∃ j', j = j' + 1 := ⟨j - 1, by omega⟩
    exact (DF_9 (fun p hp => rl_100 (List.mem_filter.mp hp).1)).mp (hk j' (by omega))
theorem ls_fewest : LS_14 Inv := by
  rintro X Y x ⟨G, hG, hX, hY⟩
  have ht := hG.1
  have hF := hX.1
  have hM := hY.1
  have hfin : ∀ T, absF (flM T) (gt G) → frm [22, 25, 26] [4, 19, 20, 21, 23, 24] Y T → absY T G := fun T h1 h2 => absY.fr hG hY h1 h2 (by decide) (by decide)
  have hO : okE (tn (gt G)) (fin (P0 (gt G)) (te (gt G))) := (okTE ht).it (P := P0 (gt G)) (okP0 ht) 28
  unfold wp_X6_fewest
  by_cases c0 : x = 0
  · subst c0
    refine br_t rfl ?_
    unfold wp_X3_fewestAdded
    refine s_settled hF ht (fun M2 h2 => s_isFull h2 (okP0 ht) hO (fun M7 e7 => bb (fun c => ?_) (fun c S6 e6 => ?_)))
    · refine ⟨4, l_fA hF ht hO (fun M' S6 e6 => ?_) 3 0 _ M7 rfl (absE_up e7 h2) rfl⟩
      have hX' : absX S6 G := by rw [e6]; exact hX
      unfold wp_X7_fewest wp_X7_isIn
      refine br_f (by decide) (br_f (by decide) (bn_t (by decide) (s7_fewestOf hM ht (fun d => by rw [c] at d; cases d) (fun _ T h3 f3 _ => bn_f rfl ⟨?_, G, hG, hX', hfin T h3 f3⟩))))
      exact (fewest_eq ht c).1
    · have hX' : absX S6 G := by rw [e6]; exact hX
      unfold wp_X7_fewest wp_X7_isIn
      exact br_f (by decide) (br_f (by decide) (bn_t (by decide) (s7_fewestOf hM ht (fun _ T h3 f3 _ => bn_f rfl ⟨rfl, G, hG, hX', hfin T h3 f3⟩) (fun d => by rw [c] at d; cases d))))
  · refine br_f c0 ?_
    by_cases c1 : x = 1
    · subst c1
      refine br_t rfl ?_
      unfold wp_X3_firstAdded
      refine s_settled hF ht (fun M2 h2 => s_isFull h2 (okP0 ht) hO (fun M7 e7 => bb (fun c => ?_) (fun c S6 e6 => ?_)))
      · refine ⟨4, l_fF hF ht hO (fun M' S6 e6 => ?_) 3 0 _ M7 rfl (absE_up e7 h2) rfl⟩
        have hX' : absX S6 G := by rw [e6]; exact hX
        unfold wp_X7_fewest wp_X7_isIn
        refine br_f (by decide) (br_f (by decide) (bn_t (by decide) (s7_fewestOf hM ht (fun d => by rw [c] at d; cases d) (fun _ T h3 f3 h4 => bn_t (by decide) ⟨?_, G, hG, hX', hfin T h3 f3⟩))))
        rw [h4]
        exact (fewest_eq ht c).2
      · have hX' : absX S6 G := by rw [e6]; exact hX
        unfold wp_X7_fewest wp_X7_isIn
        exact br_f (by decide) (br_f (by decide) (bn_t (by decide) (s7_fewestOf hM ht (fun _ T h3 f3 h4 => bn_t (by decide) ⟨by rw [h4], G, hG, hX', hfin T h3 f3⟩) (fun d => by rw [c] at d; cases d))))
    · refine br_f c1 (s_refuse (k := 2) rfl (by omega) hX (fun X2 g1 => ?_))
      have hno : wp_X7_no Y (-2) (fun r2 Y2 => (-2 : Int32) = r2 ∧ Inv X2 Y2) := s7_no (k := 2) rfl (by omega) hY (fun Y2 g2 => ⟨rfl, _, hG.rf 2, g1, g2⟩)
      unfold wp_X7_fewest wp_X7_isIn
      by_cases d0 : x < 0
      · exact br_t d0 (bn_f rfl hno)
      · refine br_f d0 ?_
        by_cases d1 : (1 : Int32) < x
        · exact br_t d1 (bn_f rfl hno)
        · exfalso
          have d1' : x ≤ (1 : Int32) := by rw [Int32.lt_iff_toInt_lt] at d1; rw [Int32.le_iff_toInt_le]; omega
          obtain ⟨j, hj, ej⟩ : ∃ j, j ≤ 1 ∧ x = nI j := nI_of2 (n := 1) rfl d0 d1'
          rcases (show j = 0 ∨ j = 1 by omega) with e | e <;> subst e
          · exact c0 ej
          · exact c1 ej
