/-! the fewest by which all may -/
def pIn (E : EE) (p : Nat) : Bool := E (p / 10) (p % 10)
def pAd (E : EE) (p : Nat) : EE := addE E (p / 10) (p % 10)
def DB (P : EP) : List Nat → Nat → EE → Bool
  | [], k, E => decide (k = 0) && fl P.1 (fin P E)
  | _ :: _, 0, E => fl P.1 (fin P E)
  | p :: l, k + 1, E => DB P l k (pAd E p) || DB P l (k + 1) E
theorem DB_0 (P : EP) (l : List Nat) (E : EE) : DB P l 0 E = fl P.1 (fin P E) := by
  cases l
  · show (decide (0 = 0) && _) = _
    simp
  · rfl
theorem DB_n (P : EP) (k : Nat) (E : EE) : DB P [] (k + 1) E = false := rfl
theorem DB_c (P : EP) (p : Nat) (l : List Nat) (k : Nat) (E : EE) : DB P (p :: l) (k + 1) E = (DB P l k (pAd E p) || DB P l (k + 1) E) := rfl
theorem DB_w {P : EP} {p : Nat} {l : List Nat} {k : Nat} {E : EE} (h : DB P l k E = true) : DB P (p :: l) k E = true := by
  cases k
  · rw [DB_0] at h ⊢; exact h
  · rw [DB_c, h]; simp
def CB (P : EP) : List Nat → Nat → EE → Bool
  | [], k, N => decide (k = 0) && fl P.1 N
  | _ :: _, 0, N => fl P.1 N
  | p :: l, k + 1, N => (!pIn N p && CB P l k (fin P (pAd N p))) || CB P l (k + 1) N
theorem CB_0 (P : EP) (l : List Nat) (N : EE) : CB P l 0 N = fl P.1 N := by
  cases l
  · show (decide (0 = 0) && _) = _
    simp
  · rfl
theorem CB_n (P : EP) (k : Nat) (E : EE) : CB P [] (k + 1) E = false := rfl
theorem CB_c (P : EP) (p : Nat) (l : List Nat) (k : Nat) (N : EE) : CB P (p :: l) (k + 1) N = ((!pIn N p && CB P l k (fin P (pAd N p))) || CB P l (k + 1) N) := rfl
def CF (P : EP) : List Nat → Nat → EE → Int32
  | [], _, _ => -9
  | p :: l, k, N => if (!pIn N p && CB P l k (fin P (pAd N p))) = true then nI p else CF P l k N
theorem CF_c (P : EP) (p : Nat) (l : List Nat) (k : Nat) (N : EE) : CF P (p :: l) k N = if (!pIn N p && CB P l k (fin P (pAd N p))) = true then nI p else CF P l k N := rfl
def DF (P : EP) : List Nat → Nat → EE → Int32
  | [], _, _ => -9
  | p :: l, k, E => if DB P l k (pAd E p) then nI p else DF P l k E
theorem DF_c (P : EP) (p : Nat) (l : List Nat) (k : Nat) (E : EE) : DF P (p :: l) k E = if DB P l k (pAd E p) then nI p else DF P l k E := rfl
theorem nI_9 {p : Nat} (hp : p < 100) : ¬ nI p = -9 := by
  intro e
  have h := nI_pos (n := p) (by omega)
  rw [e] at h
  exact h (by decide)
theorem CF_9 {P : EP} {k : Nat} {N : EE} : ∀ {l : List Nat}, (∀ p, p ∈ l → p < 100) → (CF P l k N = -9 ↔ CB P l (k + 1) N = false)
  | [], _ => by rw [CB_n]; exact ⟨fun _ => rfl, fun _ => rfl⟩
  | p :: l, h => by
    have ih := CF_9 (P := P) (k := k) (N := N) (l := l) (fun q hq => h q (List.mem_cons_of_mem _ hq))
    rw [CF_c, CB_c]
    by_cases c : (!pIn N p && CB P l k (fin P (pAd N p))) = true
    · rw [if_pos c, c]
      exact ⟨fun e => absurd e (nI_9 (h p List.mem_cons_self)), fun e => by simp at e⟩
    · rw [if_neg c, ih]
      have : (!pIn N p && CB P l k (fin P (pAd N p))) = false := by simpa using c
      rw [this, Bool.false_or]
theorem DF_9 {P : EP} {k : Nat} {E : EE} : ∀ {l : List Nat}, (∀ p, p ∈ l → p < 100) → (DF P l k E = -9 ↔ DB P l (k + 1) E = false)
  | [], _ => by rw [DB_n]; exact ⟨fun _ => rfl, fun _ => rfl⟩
  | p :: l, h => by
    have ih := DF_9 (P := P) (k := k) (E := E) (l := l) (fun q hq => h q (List.mem_cons_of_mem _ hq))
    rw [DF_c, DB_c]
    by_cases c : DB P l k (pAd E p) = true
    · rw [if_pos c, c]
      exact ⟨fun e => absurd e (nI_9 (h p List.mem_cons_self)), fun e => by simp at e⟩
    · rw [if_neg c, ih]
      have : DB P l k (pAd E p) = false := by simpa using c
      rw [this, Bool.false_or]
theorem okE_pAd {P : EP} {E : EE} (hE : okE P.1 E) {p : Nat} (hp : isP P.1 p = true) : okE P.1 (pAd E p) := by
  have := isP_iff.mp hp
  exact okE_add hE (by omega) this.2 (by omega)
theorem fin_pAd {P : EP} (hP : okP P) {E : EE} (hE : okE P.1 E) {p : Nat} (hp : isP P.1 p = true) : fin P (pAd (fin P E) p) = fin P (pAd E p) := by
  have := isP_iff.mp hp
  exact fin_add hP hE (by omega) this.2 (by omega)
theorem DB_fin {P : EP} (hP : okP P) : ∀ (l : List Nat) (k : Nat) (E E' : EE), okE P.1 E → okE P.1 E' → (∀ p, p ∈ l → isP P.1 p = true) → fin P E = fin P E' → DB P l k E = DB P l k E'
  | l, 0, E, E', _, _, _, h => by rw [DB_0, DB_0, h]
  | [], k + 1, E, E', _, _, _, _ => by rw [DB_n, DB_n]
  | p :: l, k + 1, E, E', h1, h2, hl, h => by
    have hp := hl p List.mem_cons_self
    rw [DB_c, DB_c, DB_fin hP l (k + 1) E E' h1 h2 (fun q hq => hl q (List.mem_cons_of_mem _ hq)) h, DB_fin hP l k (pAd E p) (pAd E' p) (okE_pAd h1 hp) (okE_pAd h2 hp) (fun q hq => hl q (List.mem_cons_of_mem _ hq)) (by rw [← fin_pAd hP h1 hp, h, fin_pAd hP h2 hp])]
theorem pIn_sup {P : EP} {E E0 : EE} (hs : ∀ i j, E0 i j = true → E i j = true) {p : Nat} (h : pIn E0 p = true) : pIn (fin P E) p = true := fin_sup (hs _ _ h)
theorem fin_in {P : EP} (hP : okP P) {E : EE} (hE : okE P.1 E) {p : Nat} (hp : isP P.1 p = true) (h : pIn (fin P E) p = true) : fin P (pAd E p) = fin P E := by
  refine fin_eq hP (okE_pAd hE hp) hE (fun i j z => ?_) (fun i j z => fin_sup ?_)
  · unfold pAd addE at z
    simp only [Bool.or_eq_true, Bool.and_eq_true, decide_eq_true_eq] at z
    rcases z with q | ⟨q1, q2⟩ | ⟨q1, q2⟩
    · exact fin_sup q
    · rw [q1, q2]; exact h
    · rw [q1, q2, fin_comm hP hE]; exact h
  · unfold pAd addE; rw [z]; rfl
theorem CD {P : EP} (hP : okP P) {E0 : EE} : ∀ (l : List Nat) (k : Nat) (E : EE), okE P.1 E → (∀ i j, E0 i j = true → E i j = true) → (∀ p, p ∈ l → isP P.1 p = true) →
    (CB P l k (fin P E) = true → DB P (l.filter (fun p => !pIn E0 p)) k E = true) ∧ ((∀ j, j < k → DB P (l.filter (fun p => !pIn E0 p)) j E = false) → DB P (l.filter (fun p => !pIn E0 p)) k E = true → CB P l k (fin P E) = true)
  | l, 0, E, hE, hs, hl => by rw [CB_0, DB_0]; exact ⟨fun h => h, fun _ h => h⟩
  | [], k + 1, E, hE, hs, hl => ⟨fun h => (by rw [CB_n] at h; cases h), fun _ h => (by rw [List.filter_nil, DB_n] at h; cases h)⟩
  | p :: l, k + 1, E, hE, hs, hl => by
    have hp := hl p List.mem_cons_self
    have hl' : ∀ q, q ∈ l → isP P.1 q = true := fun q hq => hl q (List.mem_cons_of_mem _ hq)
    have ih1 := CD hP l (k + 1) E hE hs hl'
    have ih2 := CD hP l k (pAd E p) (okE_pAd hE hp) (fun i j z => (by unfold pAd addE; rw [hs i j z]; rfl)) hl'
    rw [← fin_pAd hP hE hp] at ih2
    rw [CB_c]
    cases c : pIn E0 p
    · rw [List.filter_cons_of_pos (by rw [c]; rfl)]
      constructor
      · intro h
        rw [Bool.or_eq_true, Bool.and_eq_true] at h
        rw [DB_c, Bool.or_eq_true]
        exact h.imp (fun w => ih2.1 w.2) ih1.1
      · intro hm h
        rw [DB_c, Bool.or_eq_true] at h
        rw [Bool.or_eq_true, Bool.and_eq_true]
        rcases h with w | w
        · refine Or.inl ⟨?_, ih2.2 (fun j hj => ?_) w⟩
          · cases d : pIn (fin P E) p
            · rfl
            · exfalso
              have e := DB_fin hP (l.filter (fun p => !pIn E0 p)) k (pAd E p) E (okE_pAd hE hp) hE (fun q hq => hl' q (List.mem_filter.mp hq).1) (fin_in hP hE hp d)
              rw [e] at w
              have := hm k (by omega)
              rw [DB_w w] at this; cases this
          · cases d : DB P (l.filter (fun p => !pIn E0 p)) j (pAd E p)
            · rfl
            · have := hm (j + 1) (by omega)
              rw [DB_c, d] at this; simp at this
        · refine Or.inr (ih1.2 (fun j hj => ?_) w)
          cases d : DB P (l.filter (fun p => !pIn E0 p)) j E
          · rfl
          · have := hm j hj
            rw [DB_w d] at this; cases this
    · rw [List.filter_cons_of_neg (by rw [c]; decide)]
      have : pIn (fin P E) p = true := pIn_sup hs c
      rw [this]
      simpa using ih1
theorem CF_DF {P : EP} (hP : okP P) {E : EE} {k : Nat} (hE : okE P.1 E) : ∀ (l : List Nat), (∀ p, p ∈ l → isP P.1 p = true) → (∀ j, j ≤ k → DB P (l.filter (fun p => !pIn E p)) j E = false) → CF P l k (fin P E) = DF P (l.filter (fun p => !pIn E p)) k E
  | [], _, _ => rfl
  | p :: l, hl, hm => by
    have hp := hl p List.mem_cons_self
    have hl' : ∀ q, q ∈ l → isP P.1 q = true := fun q hq => hl q (List.mem_cons_of_mem _ hq)
    rw [CF_c]
    cases c : pIn E p
    · rw [List.filter_cons_of_pos (by rw [c]; rfl)] at hm ⊢
      have ih := CF_DF hP (k := k) hE l hl' (fun j hj => by
        cases d : DB P (l.filter (fun p => !pIn E p)) j E
        · rfl
        · have := hm j hj
          rw [DB_w d] at this; cases this)
      have cd := CD hP (E0 := E) l k (pAd E p) (okE_pAd hE hp) (fun i j z => (by unfold pAd addE; rw [z]; rfl)) hl'
      rw [← fin_pAd hP hE hp] at cd
      rw [DF_c, ih]
      have key : (!pIn (fin P E) p && CB P l k (fin P (pAd (fin P E) p))) = DB P (l.filter (fun p => !pIn E p)) k (pAd E p) := by
        rw [Bool.eq_iff_iff, Bool.and_eq_true]
        constructor
        · intro w; exact cd.1 w.2
        · intro w
          refine ⟨?_, cd.2 (fun j hj => ?_) w⟩
          · cases d : pIn (fin P E) p
            · rfl
            · exfalso
              have e := DB_fin hP (l.filter (fun p => !pIn E p)) k (pAd E p) E (okE_pAd hE hp) hE (fun q hq => hl' q (List.mem_filter.mp hq).1) (fin_in hP hE hp d)
              rw [e] at w
              have := hm k (by omega)
              rw [DB_w w] at this; cases this
          · cases d : DB P (l.filter (fun p => !pIn E p)) j (pAd E p)
            · rfl
            · have := hm (j + 1) (by omega)
              rw [DB_c, d] at this; simp at this
      rw [key]
    · rw [List.filter_cons_of_neg (by rw [c]; decide)] at hm ⊢
      have : pIn (fin P E) p = true := pIn_sup (fun _ _ z => z) c
      rw [this, if_neg (by simp)]
      exact CF_DF hP hE l hl' hm
/-- the least number, and the first of the set -/
def wA (c : Nat → Int32) : Nat → Nat → Int32
  | 0, _ => -9
  | m + 1, k => if c k = -9 then wA c m (k + 1) else nI (k + 1)
def wF (c : Nat → Int32) : Nat → Nat → Int32
  | 0, _ => -9
  | m + 1, k => if c k = -9 then wF c m (k + 1) else c k
theorem wA_s (c : Nat → Int32) (m k : Nat) : wA c (m + 1) k = if c k = -9 then wA c m (k + 1) else nI (k + 1) := rfl
theorem wF_s (c : Nat → Int32) (m k : Nat) : wF c (m + 1) k = if c k = -9 then wF c m (k + 1) else c k := rfl
theorem w_eq {c c' : Nat → Int32} (h : ∀ k, (∀ j, j < k → c' j = -9) → c k = c' k) : ∀ (m k : Nat), (∀ j, j < k → c' j = -9) → wA c m k = wA c' m k ∧ wF c m k = wF c' m k
  | 0, _, _ => ⟨rfl, rfl⟩
  | m + 1, k, hk => by
    rw [wA_s, wA_s, wF_s, wF_s, h k hk]
    by_cases d : c' k = -9
    · rw [if_pos d, if_pos d, if_pos d, if_pos d]
      refine w_eq h m (k + 1) (fun j hj => ?_)
      rcases Nat.lt_or_ge j k with q | q
      · exact hk j q
      · rw [show j = k by omega]; exact d
    · rw [if_neg d, if_neg d, if_neg d, if_neg d]; exact ⟨rfl, rfl⟩
theorem pl_filter (h f : Nat → Bool) : ∀ (m i : Nat), pl (fun p => h p && f p) i m = (pl h i m).filter f
  | 0, _ => rfl
  | m + 1, i => by
    rw [pl_s, pl_s, pl_filter h f m (i + 1)]
    cases c : h i
    · simp
    · cases d : f i <;> simp [d]
/-! the class -/
theorem s_copyE0 {S1 : St} {P : EP} {E : EE} {r : Nat} {Q : St → St → Prop} (hP : okP P) (h1 : absE S1 P E r) (h : ∀ S', absE S' P E r → Q S' S1) :
    ∀ (m i : Nat) (T : St), i + m = 8 → T.1 0 = S1.1 0 → T.1 1 = S1.1 1 → T.1 2 = S1.1 2 → T.1 3 = S1.1 3 → (∀ q, q < i → T.2 4 q = S1.2 4 q ∧ T.2 6 q = S1.2 6 q) → wp_X0_copyFrom_34 Q (m + 1) T S1 (nI i)
  | 0, i, T, hi, e0, e1, e2, e3, hq => by
    have hn := hP.1
    have : i = 8 := by omega
    subst this
    unfold wp_X0_copyFrom_34
    obtain ⟨g1, g2, g3, g4, g5, g6⟩ := h1
    refine br_t (by decide) (h T ⟨e0.trans g1, e1.trans g2, by rw [e2]; exact g3, e3.trans g4, fun i hi j => ?_, fun i j hi hj hij => ?_⟩)
    · rw [(hq i (by omega)).1]; exact g5 i hi j
    · rw [(hq i (by omega)).2]; exact g6 i j hi hj hij
  | m + 1, i, T, hi, e0, e1, e2, e3, hq => by
    have hv : vp_in (nI i) 8 := vp_in_nI (by omega) (by omega)
    unfold wp_X0_copyFrom_34
    rw [nI_clamp (n := i) (by omega), nI_1]
    refine br_f (fun c => by rw [show (8 : Int32) = nI 8 from rfl, nI_leI (by omega) (by omega)] at c; omega) ⟨hv, hv, fun T1 f1 => ⟨hv, hv, fun T2 f2 => ?_⟩⟩
    refine s_copyE0 hP h1 h m (i + 1) T2 (by omega) (by rw [f2, f1]; exact e0) (by rw [f2, f1]; exact e1) (by rw [f2, f1]; exact e2) (by rw [f2, f1]; exact e3) (fun q hq' => ?_)
    rw [f2, sA_s, sA_n _ _ _ (show (4 : Nat) ≠ 6 by decide), f1, sA_s, sA_n _ _ _ (show (6 : Nat) ≠ 4 by decide)]
    by_cases c : q = i
    · rw [c, upd_s, upd_s]; exact ⟨rfl, rfl⟩
    · rw [upd_n _ _ c, upd_n _ _ c]; exact hq q (by omega)
theorem s_copyE {S0 S1 : St} {P : EP} {E : EE} {r : Nat} {Q : St → St → Prop} (hP : okP P) (h1 : absE S1 P E r) (h : ∀ S', absE S' P E r → Q S' S1) : wp_X0_copyFrom S0 S1 Q := by
  intro T1 e1 T3 e3 T5 e5 T7 e7
  refine ⟨9, s_copyE0 hP h1 h 8 0 T7 rfl ?_ ?_ ?_ ?_ (fun q hq => by omega)⟩
  · rw [e7, sI_n _ _ (by decide), e5, sI_n _ _ (by decide), e3, sI_n _ _ (by decide), e1, sI_s]
  · rw [e7, sI_n _ _ (by decide), e5, sI_n _ _ (by decide), e3, sI_s]
  · rw [e7, sI_n _ _ (by decide), e5, sI_s]
  · rw [e7, sI_s]
theorem rl_100 {g : Nat → Bool} {i q : Nat} (h : q ∈ rl g i) : q < 100 := (rl_mem h).2.2
theorem l_fos30 {R : (Nat → St) → St → Int32 → Int32 → Int32 → (Int32 → (Nat → St) → St → Prop) → Prop} {F : St} {t : TV} {k lev r : Nat} {x4 : Int32} {M0 : Nat → St} {N : EE} {V : Int32} {Q : Int32 → (Nat → St) → St → Prop} (hF : absF F t) (ht : okT t) (hl : lev + k ≤ 2)
    (hR : ∀ k', k = k' + 1 → ∀ (M : Nat → St) (N : EE) (r p : Nat) (Q' : Int32 → (Nat → St) → St → Prop), p ≤ 68 → absE (M (lev + 1)) (P0 t) N r → okE (tn t) N → (∀ M', (∀ i, i ≤ lev + 1 → M' i = M i) → Q' (CF (P0 t) (rl (isP (tn t)) p) k' N) M' F) → R M F (nI (lev + 1)) (nI (k' + 1)) (nI p) Q')
    (hM : absE (M0 lev) (P0 t) N r) (hN : okE (tn t) N) (hQ : ∀ M', (∀ i, i ≤ lev → M' i = M0 i) → Q V M' F) :
    ∀ (m p : Nat) (M : Nat → St), p + m = 68 → (∀ i, i ≤ lev → M i = M0 i) → CF (P0 t) (rl (isP (tn t)) p) k N = V → wp_X3_firstOfSet_30 R (nI lev) (nI (k + 1)) x4 Q (m + 1) M F (nI p)
  | 0, p, M, hp, hi, hV => by
    have hn := ht.1
    have : p = 68 := by omega
    subst this
    unfold wp_X3_firstOfSet_30
    rw [rl_nil (by omega) (fun p h1 h2 => isP_f (by omega))] at hV
    have hV' : (-9 : Int32) = V := hV
    exact br_t (by decide) (by rw [hV']; exact hQ M hi)
  | m + 1, p, M, hp, hi, hV => by
    have hn := ht.1
    have ih := l_fos30 (x4 := x4) hF ht hl hR hM hN hQ m (p + 1)
    unfold wp_X3_firstOfSet_30
    rw [nI_1 lev, nI_1 p, nI_clamp (n := lev) (by omega), nI_clamp (n := lev + 1) (by omega)]
    refine br_f (fun c => by rw [show (67 : Int32) = nI 67 from rfl, nI_ltI (by omega) (by omega)] at c; omega) (s_isPair hF ht (by omega) (bb (fun c => ?_) (fun c => ?_)))
    · rw [rl_f (by omega) c] at hV
      exact ih M (by omega) hi hV
    · have hpP := isP_iff.mp c
      rw [rl_t (by omega) c, CF_c] at hV
      unfold wp_X6_lesserOf wp_X6_greaterOf
      rw [rem10 (show p < 100 by omega), div10 (show p < 100 by omega)]
      refine s_hdE (P := P0 t) (E := N) (r := r) (by rw [hi lev (Nat.le_refl _)]; exact hM) (okP0 ht) (show p / 10 < tn t by omega) (by omega) (fun S12 e12 => ?_)
      have h12 : ∀ i, S12 i = M i := fun i => by
        rw [e12]
        by_cases w : i = lev
        · rw [w, up_s]
        · rw [up_n _ _ w]
      show (¬ b2i (pIn N p) = 0 → _) ∧ (b2i (pIn N p) = 0 → _)
      refine bb' (fun d => ?_) (fun d => ⟨by omega, s_copyE (P := P0 t) (E := N) (r := r) (okP0 ht) (by rw [h12, hi lev (Nat.le_refl _)]; exact hM) (fun u16 h16 S20 e20 => ?_)⟩)
      · rw [d, if_neg (by simp)] at hV
        exact ih S12 (by omega) (fun i hi' => by rw [h12, hi i hi']) hV
      · have h20 : ∀ i, i ≤ lev → S20 i = M0 i := fun i hi' => by
          rw [e20]
          by_cases w : i = lev
          · rw [w, up_s, h12, hi lev (Nat.le_refl _)]
          · rw [up_n _ _ w, up_n _ _ (by omega), h12, hi i hi']
        have h20b : S20 (lev + 1) = u16 := by rw [e20, up_n _ _ (by omega), up_s]
        have hA : okE (tn t) (pAd N p) := okE_pAd (P := P0 t) hN c
        refine s_joinPair (P := P0 t) (E := N) (r := r) (by rw [h20b]; exact h16) (okP0 ht) (by omega) (show p / 10 < tn t by omega) hpP.2 (by omega) (fun u23 h23 S24 e24 => s_settle (P := P0 t) (E := pAd N p) (r := r) (absE_up e24 h23) (okP0 ht) hA (fun u27 h27 S28 e28 => ?_))
        have h28 : ∀ i, i ≤ lev → S28 i = M0 i := fun i hi' => by rw [e28, up_n _ _ (by omega), e24, up_n _ _ (by omega), h20 i hi']
        have hA' : absE (S28 (lev + 1)) (P0 t) (fin (P0 t) (pAd N p)) (r + rc (P0 t) (pAd N p)) := absE_up e28 h27
        have hO : okE (tn t) (fin (P0 t) (pAd N p)) := hA.it (P := P0 t) (okP0 ht) 28
        rw [d] at hV
        rcases Nat.eq_zero_or_pos k with hk | hk
        · subst hk
          refine br_f (by decide) (s_isFull hA' (okP0 ht) hO (fun S38 e38 => ?_))
          have h38 : ∀ i, i ≤ lev → S38 i = M0 i := fun i hi' => by rw [e38, up_n _ _ (by omega), h28 i hi']
          rw [CB_0] at hV
          refine bb (fun w => ?_) (fun w => ?_)
          · rw [if_neg (by rw [w]; decide)] at hV
            exact ih S38 (by omega) h38 hV
          · rw [if_pos (by rw [w]; rfl)] at hV
            rw [hV]; exact hQ S38 h38
        · obtain ⟨k', rfl⟩ : ∃ k', k = k' + 1 := ⟨k - 1, by omega⟩
          refine br_t (by rw [show (1 : Int32) = nI 1 from rfl, nI_ltI (by omega) (by omega)]; omega) ?_
          rw [show nI (k' + 1 + 1) - (1 : Int32) = nI (k' + 1) from pk_sub (b := 1) (by omega)]
          refine hR k' rfl S28 (fin (P0 t) (pAd N p)) _ (p + 1) _ (by omega) hA' hO (fun M' hM' => ?_)
          have h32 : ∀ i, i ≤ lev → M' i = M0 i := fun i hi' => by rw [hM' i (by omega), h28 i hi']
          by_cases w : CF (P0 t) (rl (isP (tn t)) (p + 1)) k' (fin (P0 t) (pAd N p)) = -9
          · have := (CF_9 (fun q hq => rl_100 hq)).mp w
            rw [this, if_neg (by decide)] at hV
            exact br_t w (ih M' (by omega) h32 hV)
          · have : CB (P0 t) (rl (isP (tn t)) (p + 1)) (k' + 1) (fin (P0 t) (pAd N p)) = true := by
              cases z : CB (P0 t) (rl (isP (tn t)) (p + 1)) (k' + 1) (fin (P0 t) (pAd N p))
              · exact absurd ((CF_9 (fun q hq => rl_100 hq)).mpr z) w
              · rfl
            rw [this, if_pos (show (!false && true) = true from rfl)] at hV
            exact br_f w (by rw [hV]; exact hQ M' h32)
theorem s_fos {F : St} {t : TV} (hF : absF F t) (ht : okT t) : ∀ (k d lev : Nat) (M : Nat → St) (N : EE) (r p : Nat) (Q : Int32 → (Nat → St) → St → Prop), k + 1 ≤ d → lev + k ≤ 2 → p ≤ 68 → absE (M lev) (P0 t) N r → okE (tn t) N → (∀ M', (∀ i, i ≤ lev → M' i = M i) → Q (CF (P0 t) (rl (isP (tn t)) p) k N) M' F) → wp_X3_firstOfSet d M F (nI lev) (nI (k + 1)) (nI p) Q := by
  intro k
  induction k with
  | zero =>
    intro d lev M N r p Q hd hl hp hM hN hQ
    obtain ⟨d', rfl⟩ : ∃ d', d = d' + 1 := ⟨d - 1, by omega⟩
    unfold wp_X3_firstOfSet wp_X3_firstOfSet_b
    rw [nI_1 lev]
    exact br_t (by rw [show (3 : Int32) = nI 3 from rfl, nI_ltI (by omega) (by omega)]; omega) ⟨vp_in_nI (by omega) (by omega), vp_in_nI (by omega) (by omega), 68 - p + 1, l_fos30 hF ht hl (fun k' e => by omega) hM hN hQ (68 - p) p M (by omega) (fun _ _ => rfl) rfl⟩
  | succ k ih =>
    intro d lev M N r p Q hd hl hp hM hN hQ
    obtain ⟨d', rfl⟩ : ∃ d', d = d' + 1 := ⟨d - 1, by omega⟩
    unfold wp_X3_firstOfSet wp_X3_firstOfSet_b
    rw [nI_1 lev]
    refine br_t (by rw [show (3 : Int32) = nI 3 from rfl, nI_ltI (by omega) (by omega)]; omega) ⟨vp_in_nI (by omega) (by omega), vp_in_nI (by omega) (by omega), 68 - p + 1, l_fos30 hF ht hl (fun k' e M N r p Q' h1 h2 h3 h4 => ?_) hM hN hQ (68 - p) p M (by omega) (fun _ _ => rfl) rfl⟩
    have : k' = k := by omega
    subst this
    exact ih d' (lev + 1) M N r p Q' (by omega) (by omega) h1 h2 h3 h4
theorem l_fA {F : St} {t : TV} {N : EE} {V : Int32} {Q : Int32 → (Nat → St) → St → Prop} (hF : absF F t) (ht : okT t) (hN : okE (tn t) N) (hQ : ∀ M', Q V M' F) :
    ∀ (m k r : Nat) (M : Nat → St), k + m = 3 → absE (M 0) (P0 t) N r → wA (fun k => CF (P0 t) (rl (isP (tn t)) 1) k N) m k = V → wp_X3_fewestAdded_15 Q (m + 1) M F (nI (k + 1))
  | 0, k, r, M, hk, hM, hV => by
    have : k = 3 := by omega
    subst this
    unfold wp_X3_fewestAdded_15
    have hV' : (-9 : Int32) = V := hV
    exact br_t (by decide) (by rw [hV']; exact hQ M)
  | m + 1, k, r, M, hk, hM, hV => by
    unfold wp_X3_fewestAdded_15
    rw [wA_s] at hV
    refine br_f (fun c => by rw [show (3 : Int32) = nI 3 from rfl, nI_ltI (by omega) (by omega)] at c; omega) (s_fos hF ht k 4 0 M N r 1 _ (by omega) (by omega) (by omega) hM hN (fun M' hM' => ?_))
    by_cases c : CF (P0 t) (rl (isP (tn t)) 1) k N = -9
    · rw [if_pos c] at hV
      rw [nI_1]
      exact br_t c (l_fA hF ht hN hQ m (k + 1) r M' (by omega) (by rw [hM' 0 (Nat.le_refl _)]; exact hM) hV)
    · rw [if_neg c] at hV
      exact br_f c (by rw [hV]; exact hQ M')
theorem l_fF {F : St} {t : TV} {N : EE} {V : Int32} {Q : Int32 → (Nat → St) → St → Prop} (hF : absF F t) (ht : okT t) (hN : okE (tn t) N) (hQ : ∀ M', Q V M' F) :
    ∀ (m k r : Nat) (M : Nat → St), k + m = 3 → absE (M 0) (P0 t) N r → wF (fun k => CF (P0 t) (rl (isP (tn t)) 1) k N) m k = V → wp_X3_firstAdded_16 Q (m + 1) M F (nI (k + 1))
  | 0, k, r, M, hk, hM, hV => by
    have : k = 3 := by omega
    subst this
    unfold wp_X3_firstAdded_16
    have hV' : (-9 : Int32) = V := hV
    exact br_t (by decide) (by rw [hV']; exact hQ M)
  | m + 1, k, r, M, hk, hM, hV => by
    unfold wp_X3_firstAdded_16
    rw [wF_s] at hV
    refine br_f (fun c => by rw [show (3 : Int32) = nI 3 from rfl, nI_ltI (by omega) (by omega)] at c; omega) (s_fos hF ht k 4 0 M N r 1 _ (by omega) (by omega) (by omega) hM hN (fun M' hM' => ?_))
    by_cases c : CF (P0 t) (rl (isP (tn t)) 1) k N = -9
    · rw [if_pos c] at hV
      rw [nI_1]
      exact br_t c (l_fF hF ht hN hQ m (k + 1) r M' (by omega) (by rw [hM' 0 (Nat.le_refl _)]; exact hM) hV)
    · rw [if_neg c] at hV
      exact br_f c (by rw [hV]; exact hQ M')
