/-! 22 cards: the class -/
def usA (us : Nat → Bool) (i : Nat) : Nat → Bool := fun j => us j || decide (j = i)
def CO (ps : Nat → Nat) (R : Nat) : Nat → (Nat → Bool) → TV → Nat
  | 0, _, _ => 1
  | m + 1, us, t => smN (fun i => if (!us i && okp t (ps i / 10) (ps i % 10)) = true then CO ps R m (usA us i) (nbT t (ps i / 10) (ps i % 10)) else 0) R
theorem CO_s (ps : Nat → Nat) (R m : Nat) (us : Nat → Bool) (t : TV) : CO ps R (m + 1) us t = smN (fun i => if (!us i && okp t (ps i / 10) (ps i % 10)) = true then CO ps R m (usA us i) (nbT t (ps i / 10) (ps i % 10)) else 0) R := rfl
def GS (R7 : WS → Int32 → Int32 → (Int32 → WS → Prop) → Prop) (E : St) (ps : Nat → Nat) (R k m : Nat) : Prop :=
  ∀ (M : Nat → St) (us : Nat → Bool) (x2 : Int32) (t : TV) (Q : Int32 → WS → Prop), okT t → absF (M k) t → (∀ i, i < R → bt x2 i = us i) → (∀ M', (∀ i, i ≤ k → M' i = M i) → Q (nI (CO ps R m us t)) (E, M')) → R7 (E, M) (nI k) x2 Q
theorem l_go31 {R7 : WS → Int32 → Int32 → (Int32 → WS → Prop) → Prop} {E : St} {ps : Nat → Nat} {R k m : Nat} {M0 : Nat → St} {us : Nat → Bool} {x2 : Int32} {t : TV} {Q : Int32 → WS → Prop} (hR : E.1 0 = nI R) (hR6 : R ≤ 5) (hp : ∀ i, i < R → ps i < 100 ∧ E.2 1 i = nI (ps i)) (hk : k < R) (ht : okT t) (hM : absF (M0 k) t) (hu : ∀ i, i < R → bt x2 i = us i) (hG : GS R7 E ps R (k + 1) m)
    (hQ : ∀ M', (∀ i, i ≤ k → M' i = M0 i) → Q (nI (CO ps R (m + 1) us t)) (E, M')) :
    ∀ (n i : Nat) (M : Nat → St), i + n = R → (∀ j, j ≤ k → M j = M0 j) → wp_X1_goodOrdersFrom_31 R7 (nI k) x2 Q (n + 1) (E, M) (nI (smN (fun i => if (!us i && okp t (ps i / 10) (ps i % 10)) = true then CO ps R m (usA us i) (nbT t (ps i / 10) (ps i % 10)) else 0) i)) (nI i)
  | 0, i, M, hi, hlo => by
    have : i = R := by omega
    subst this
    unfold wp_X1_goodOrdersFrom_31
    show (E.1 0 ≤ nI i → _) ∧ _
    rw [hR]
    exact br_t (nI_le (Nat.le_refl _) (by omega)) (hQ M hlo)
  | n + 1, i, M, hi, hlo => by
    have ih := l_go31 hR hR6 hp hk ht hM hu hG hQ n (i + 1)
    rw [smN_s] at ih
    obtain ⟨p1, p2⟩ := hp i (by omega)
    have hv : vp_in (nI i) 6 := vp_in_nI (by omega) (by omega)
    unfold wp_X1_goodOrdersFrom_31
    rw [nI_1 k, nI_1 i, nI_clamp (n := k) (by omega), nI_clamp (n := k + 1) (by omega), nI_clamp (n := i) (by omega)]
    show (E.1 0 ≤ nI i → _) ∧ _
    rw [hR]
    refine br_f (fun c => by rw [nI_leI (by omega) (by omega)] at c; omega) (s_hasBit (by omega) ?_)
    rw [hu i (by omega)]
    refine bb' (fun c => ?_) (fun c => ⟨vp_in_nI (by omega) (by omega), by omega, s_copyFrom (t := t) ht (by show absF (M k) t; rw [hlo k (Nat.le_refl _)]; exact hM) (fun u9 h9 S13 e13 => ⟨hv, hv, ?_⟩)⟩)
    · have := ih M (by omega) hlo
      rw [if_neg (by rw [c]; simp), Nat.add_zero] at this
      exact this
    · have e13' : S13 = (E, va_up (va_up M (k + 1) u9) k (M k)) := e13
      rw [e13']
      show wp_X2_stepByLeast (va_up (va_up M (k + 1) u9) k (M k) (k + 1)) (E.2 1 i / 10) (E.2 1 i - E.2 1 i / 10 * 10) _
      rw [p2, rem10 p1, div10 p1]
      have hlow : ∀ (F : St) (j : Nat), j ≤ k → va_up (va_up (va_up M (k + 1) u9) k (M k)) (k + 1) F j = M0 j := fun F j hj => by
        rw [up_n _ _ (by omega)]
        by_cases w : j = k
        · rw [w, up_s, hlo k (Nat.le_refl _)]
        · rw [up_n _ _ w, up_n _ _ (by omega), hlo j hj]
      refine s_sblN (t := t) (by rw [up_n _ _ (by omega), up_s]; exact h9) ht (by omega) (by omega) (fun d F' g1 S17 e17 => br_f (by decide) ?_) (fun d S17 e17 => br_t rfl ?_)
      · have e17' : S17 = (E, va_up (va_up (va_up M (k + 1) u9) k (M k)) (k + 1) F') := e17
        rw [e17']
        refine hG _ (usA us i) _ (nbT t (ps i / 10) (ps i % 10)) _ (okT_nb ht d) (by rw [up_s]; exact g1) (fun j hj => ?_) (fun M' hM' => ?_)
        · show bt (x2 ||| b1 i) j = _
          rw [b_or, b_b1 (by omega), hu j hj]
          rfl
        · have := ih M' (by omega) (fun j hj => by rw [hM' j (by omega), hlow F' j hj])
          rw [if_pos (by rw [c, d]; rfl)] at this
          rw [nI_add]
          exact this
      · have e17' : S17 = (E, va_up (va_up (va_up M (k + 1) u9) k (M k)) (k + 1) (va_up (va_up M (k + 1) u9) k (M k) (k + 1))) := e17
        rw [e17']
        have := ih _ (by omega) (hlow (va_up (va_up M (k + 1) u9) k (M k) (k + 1)))
        rw [if_neg (by rw [d]; simp), Nat.add_zero] at this
        exact this
theorem s_gof {E : St} {ps : Nat → Nat} {R : Nat} (hR : E.1 0 = nI R) (hR6 : R ≤ 5) (hp : ∀ i, i < R → ps i < 100 ∧ E.2 1 i = nI (ps i)) : ∀ (m d k : Nat), k + m = R → m + 1 ≤ d → GS (wp_X1_goodOrdersFrom d) E ps R k m := by
  intro m
  induction m with
  | zero =>
    intro d k hk hd M us x2 t Q ht hM hu hQ
    obtain ⟨d', rfl⟩ : ∃ d', d = d' + 1 := ⟨d - 1, by omega⟩
    unfold wp_X1_goodOrdersFrom wp_X1_goodOrdersFrom_b
    show (E.1 0 ≤ nI k → _) ∧ _
    rw [hR]
    exact br_t (nI_le (by omega) (by omega)) (hQ M (fun _ _ => rfl))
  | succ m ih =>
    intro d k hk hd M us x2 t Q ht hM hu hQ
    obtain ⟨d', rfl⟩ : ∃ d', d = d' + 1 := ⟨d - 1, by omega⟩
    unfold wp_X1_goodOrdersFrom wp_X1_goodOrdersFrom_b
    show (E.1 0 ≤ nI k → _) ∧ _
    rw [hR, nI_1 k]
    exact br_f (fun c => by rw [nI_leI (by omega) (by omega)] at c; omega) (br_t (by rw [show (6 : Int32) = nI 6 from rfl, nI_ltI (by omega) (by omega)]; omega) ⟨vp_in_nI (by omega) (by omega), R + 1, l_go31 hR hR6 hp (by omega) ht hM hu (ih d' (k + 1) (by omega) (by omega)) hQ R 0 M (by omega) (fun _ _ => rfl)⟩)
/-! orders as lists -/
def okO (ps : Nat → Nat) : List Nat → TV → Bool
  | [], _ => true
  | i :: l, t => okp t (ps i / 10) (ps i % 10) && okO ps l (nbT t (ps i / 10) (ps i % 10))
def cntO (ps : Nat → Nat) (t : TV) : List (List Nat) → Nat
  | [] => 0
  | l :: L => (if okO ps l t then 1 else 0) + cntO ps t L
theorem cntO_c (ps : Nat → Nat) (t : TV) (l : List Nat) (L : List (List Nat)) : cntO ps t (l :: L) = (if okO ps l t then 1 else 0) + cntO ps t L := rfl
def pms : Nat → List Nat → List (List Nat)
  | 0, _ => [[]]
  | m + 1, av => av.flatMap (fun i => (pms m (av.filter (fun j => !decide (j = i)))).map (fun l => i :: l))
theorem pms_s (m : Nat) (av : List Nat) : pms (m + 1) av = av.flatMap (fun i => (pms m (av.filter (fun j => !decide (j = i)))).map (fun l => i :: l)) := rfl
def smL (f : Nat → Nat) : List Nat → Nat
  | [] => 0
  | i :: l => f i + smL f l
theorem cntO_ap (ps : Nat → Nat) (t : TV) : ∀ (A B : List (List Nat)), cntO ps t (A ++ B) = cntO ps t A + cntO ps t B
  | [], B => by simp [cntO]
  | l :: A, B => by rw [List.cons_append, cntO_c, cntO_c, cntO_ap ps t A B]; omega
theorem cntO_fm (ps : Nat → Nat) (t : TV) (g : Nat → List (List Nat)) : ∀ av : List Nat, cntO ps t (av.flatMap g) = smL (fun i => cntO ps t (g i)) av
  | [] => rfl
  | i :: l => by rw [List.flatMap_cons, cntO_ap, cntO_fm ps t g l]; rfl
theorem cntO_map (ps : Nat → Nat) (t : TV) (i : Nat) : ∀ L : List (List Nat), cntO ps t (L.map (fun l => i :: l)) = if okp t (ps i / 10) (ps i % 10) then cntO ps (nbT t (ps i / 10) (ps i % 10)) L else 0
  | [] => by simp [cntO]
  | l :: L => by
    rw [List.map_cons, cntO_c, cntO_c, cntO_map ps t i L]
    cases c : okp t (ps i / 10) (ps i % 10)
    · simp [okO, c]
    · simp [okO, c]
theorem smL_ap (f : Nat → Nat) : ∀ (A B : List Nat), smL f (A ++ B) = smL f A + smL f B
  | [], B => by simp [smL]
  | i :: A, B => by
    show f i + smL f (A ++ B) = f i + smL f A + smL f B
    rw [smL_ap f A B]; omega
theorem smL_rng (f : Nat → Nat) (p : Nat → Bool) : ∀ R : Nat, smL f ((List.range R).filter p) = smN (fun i => if p i = true then f i else 0) R
  | 0 => rfl
  | R + 1 => by
    rw [List.range_succ, List.filter_append, smL_ap, smL_rng f p R, smN_s]
    cases c : p R
    · simp [c, smL]
    · simp [c, smL]
theorem cnt_pms (ps : Nat → Nat) (R : Nat) : ∀ (m : Nat) (us : Nat → Bool) (t : TV), cntO ps t (pms m ((List.range R).filter (fun i => !us i))) = CO ps R m us t
  | 0, us, t => rfl
  | m + 1, us, t => by
    rw [pms_s, cntO_fm, CO_s, smL_rng]
    refine smN_congr (fun i _ => ?_)
    rw [cntO_map]
    have e : ((List.range R).filter (fun i => !us i)).filter (fun j => !decide (j = i)) = (List.range R).filter (fun j => !usA us i j) := by
      rw [List.filter_filter]
      congr 1
      funext j
      unfold usA
      cases us j <;> cases decide (j = i) <;> rfl
    rw [e, cnt_pms ps R m]
    cases us i <;> simp
/-! the next order -/
def swp (l : List Nat) (i j : Nat) : List Nat := (l.set i (l.getD j 0)).set j (l.getD i 0)
def fI (l : List Nat) : Nat → Nat
  | 0 => 0
  | i + 1 => if l.getD i 0 ≤ l.getD (i + 1) 0 then i + 1 else fI l i
theorem fI_s (l : List Nat) (i : Nat) : fI l (i + 1) = if l.getD i 0 ≤ l.getD (i + 1) 0 then i + 1 else fI l i := rfl
def fJ (l : List Nat) (v : Nat) : Nat → Nat
  | 0 => 0
  | j + 1 => if v ≤ l.getD (j + 1) 0 then j + 1 else fJ l v j
def rv : Nat → List Nat → Nat → Nat → List Nat
  | 0, l, _, _ => l
  | n + 1, l, a, b => if b ≤ a then l else rv n (swp l a b) (a + 1) (b - 1)
def nxP (R : Nat) (l : List Nat) : Option (List Nat) := match fI l (R - 1) with
  | 0 => none
  | i + 1 => some (rv 6 (swp l i (fJ l (l.getD i 0) (R - 1))) (i + 1) (R - 1))
def chB (R : Nat) : List (List Nat) → Bool
  | [] => true
  | l :: L => decide (l.length = R) && (l.all (fun x => decide (x < R)) && (decide (nxP R l = L.head?) && chB R L))
theorem chB_all : ∀ R, R ≤ 5 → chB R (pms R (List.range R)) = true ∧ (pms R (List.range R)).head? = some (List.range R) := by decide +kernel
/-- the order that stands in the reference's row -/
def rpO (S : St) (l : List Nat) (R : Nat) : Prop := l.length = R ∧ (∀ i, l.getD i 0 < 6) ∧ ∀ i, i < R → S.2 28 i = nI (l.getD i 0)
theorem gd_set (l : List Nat) (i v q : Nat) (h : i < l.length) : (l.set i v).getD q 0 = if q = i then v else l.getD q 0 := by
  rw [List.getD_eq_getElem?_getD, List.getD_eq_getElem?_getD, List.getElem?_set]
  by_cases c : q = i
  · subst c; simp [h]
  · rw [if_neg (fun e => c e.symm), if_neg c]
theorem swp_gd (l : List Nat) {i j : Nat} (hi : i < l.length) (hj : j < l.length) (q : Nat) : (swp l i j).getD q 0 = if q = j then l.getD i 0 else if q = i then l.getD j 0 else l.getD q 0 := by
  unfold swp
  rw [gd_set _ _ _ _ (by rw [List.length_set]; exact hj), gd_set _ _ _ _ hi]
theorem s7_changes {S : St} {l : List Nat} {R i j : Nat} {Q : St → Prop} (hl : rpO S l R) (hR : R ≤ 5) (hi : i < R) (hj : j < R) (h : ∀ S', rpO S' (swp l i j) R → frm [] [28] S S' → Q S') : wp_X7_changes S (nI i) (nI j) Q := by
  obtain ⟨l1, l2, l3⟩ := hl
  have hvi : vp_in (nI i) 6 := vp_in_nI (by omega) (by omega)
  have hvj : vp_in (nI j) 6 := vp_in_nI (by omega) (by omega)
  unfold wp_X7_changes
  rw [nI_clamp (n := i) (by omega), nI_clamp (n := j) (by omega)]
  refine ⟨hvi, hvj, hvi, fun S1 e1 => ⟨hvj, fun S3 e3 => h S3 ⟨?_, fun q => ?_, fun q hq => ?_⟩ ?_⟩⟩
  · unfold swp; rw [List.length_set, List.length_set]; exact l1
  · rw [swp_gd l (by omega) (by omega)]
    split
    · exact l2 i
    · split
      · exact l2 j
      · exact l2 q
  · rw [swp_gd l (by omega) (by omega), e3, sA_s]
    by_cases c1 : q = j
    · rw [c1, upd_s, if_pos rfl]; exact l3 i hi
    · rw [upd_n _ _ c1, if_neg c1, e1, sA_s]
      by_cases c2 : q = i
      · rw [c2, upd_s, if_pos rfl]; exact l3 j hj
      · rw [upd_n _ _ c2, if_neg c2]; exact l3 q hq
  · rw [e3, e1]; exact (frm.sA 28 _ _).tr (frm.sA 28 _ _)
theorem l7_86 {R : Nat} {Q : Int32 → St → Prop} {Y : St} (hR : R ≤ 5) : ∀ (n : Nat) (S : St) (l : List Nat) (a b : Nat), b < a + n → b < R → a ≤ R → rpO S l R → frm [] [28] Y S → (∀ S', rpO S' (rv n l a b) R → frm [] [28] Y S' → Q 1 S') → wp_X7_nextOrder_86 Q (n + 1) S (nI a) (nI b)
  | 0, S, l, a, b, h1, h2, h3, hl, hf, h => by
    unfold wp_X7_nextOrder_86
    exact br_t (nI_le (by omega) (by omega)) (h S hl hf)
  | n + 1, S, l, a, b, h1, h2, h3, hl, hf, h => by
    unfold wp_X7_nextOrder_86
    unfold rv at h
    by_cases c : b ≤ a
    · rw [if_pos c] at h
      exact br_t (nI_le c (by omega)) (h S hl hf)
    · rw [if_neg c] at h
      obtain ⟨b', rfl⟩ : ∃ b', b = b' + 1 := ⟨b - 1, by omega⟩
      rw [nI_1 a, pk_m1 b']
      exact br_f (fun z => c ((nI_leI (by omega) (by omega)).mp z)) (s7_changes hl hR (by omega) h2 (fun S' g1 g2 => l7_86 hR n S' _ (a + 1) b' (by omega) (by omega) (by omega) g1 (hf.tr g2) h))
theorem l7_47 {R i : Nat} {S : St} {l : List Nat} {Q : Int32 → St → Prop} (hR : R ≤ 5) (h29 : S.1 29 = nI R) (hl : rpO S l R) : ∀ (j : Nat), i ≤ j → j < R → i + 1 < R → (∀ S', rpO S' (rv 6 (swp l i (fJ l (l.getD i 0) j)) (i + 1) (R - 1)) R → frm [] [28] S S' → Q 1 S') → wp_X7_nextOrder_47 Q (j + 1) S (nI i) (nI j) := by
  have hv : ∀ q, q < R → vp_in (nI q) 6 := fun q hq => vp_in_nI (by omega) (by omega)
  have go : ∀ j, j < R → i + 1 < R → (∀ S', rpO S' (rv 6 (swp l i j) (i + 1) (R - 1)) R → frm [] [28] S S' → Q 1 S') → wp_X7_changes S (nI i) (nI j) (fun u_5 => ∃ n, wp_X7_nextOrder_86 Q n u_5 (nI i + (1 : Int32)) ((u_5.1 29) - (1 : Int32))) := by
    intro j hj hi h
    refine s7_changes hl hR (by omega) hj (fun S' g1 g2 => ?_)
    rw [g2.1 29 (by decide), h29, nI_1 i, show nI R - (1 : Int32) = nI (R - 1) from pk_sub (b := 1) (by omega)]
    exact ⟨7, l7_86 hR 6 S' _ (i + 1) (R - 1) (by omega) (by omega) (by omega) g1 g2 h⟩
  have g := hl.2.1
  intro j
  induction j with
  | zero =>
    intro h1 h2 h3 h
    have : i = 0 := by omega
    subst this
    unfold wp_X7_nextOrder_47
    exact ⟨hv 0 (by omega), hv 0 (by omega), br_t (Int32.le_iff_toInt_le.mpr (Int.le_refl _)) (go 0 h2 h3 h)⟩
  | succ j ih =>
    intro h1 h2 h3 h
    unfold wp_X7_nextOrder_47
    rw [nI_clamp (n := i) (by omega), nI_clamp (n := j + 1) (by omega), hl.2.2 i (by omega), hl.2.2 (j + 1) h2, pk_m1 j]
    refine ⟨hv _ h2, hv _ (by omega), ?_⟩
    have gi := g i
    have gj := g (j + 1)
    unfold fJ at h
    by_cases c : l.getD i 0 ≤ l.getD (j + 1) 0
    · rw [if_pos c] at h
      exact br_t (nI_le c (by omega)) (go (j + 1) h2 h3 h)
    · rw [if_neg c] at h
      have : i ≠ j + 1 := fun e => c (by rw [e]; exact Nat.le_refl _)
      exact br_f (fun z => c ((nI_leI (by omega) (by omega)).mp z)) (ih (by omega) (by omega) h3 h)
theorem l7_7 {R : Nat} {S : St} {l : List Nat} {Q : Int32 → St → Prop} (hR : R ≤ 5) (h29 : S.1 29 = nI R) (hl : rpO S l R) (h0 : fI l (R - 1) = 0 → Q 0 S) (h1 : ∀ i, fI l (R - 1) = i + 1 → ∀ S', rpO S' (rv 6 (swp l i (fJ l (l.getD i 0) (R - 1))) (i + 1) (R - 1)) R → frm [] [28] S S' → Q 1 S') :
    ∀ (i : Nat), i + 1 ≤ R → fI l i = fI l (R - 1) → wp_X7_nextOrder_7 Q (i + 1) S (nI i - 1)
  | 0, hi, he => by
    unfold wp_X7_nextOrder_7 wp_X7_nextOrder_34
    exact br_t (by decide) (br_f (by decide) (h0 he.symm))
  | i + 1, hi, he => by
    have gi := hl.2.1 i
    have gj := hl.2.1 (i + 1)
    rw [fI_s l i] at he
    rw [nI_pred]
    unfold wp_X7_nextOrder_7
    rw [nI_1 i, nI_clamp (n := i) (by omega), nI_clamp (n := i + 1) (by omega), hl.2.2 i (by omega), hl.2.2 (i + 1) (by omega)]
    refine br_f (nI_pos (by omega)) ⟨vp_in_nI (by omega) (by omega), vp_in_nI (by omega) (by omega), ?_⟩
    by_cases c : l.getD i 0 ≤ l.getD (i + 1) 0
    · rw [if_pos c] at he
      refine br_t (nI_le c (by omega)) ?_
      unfold wp_X7_nextOrder_34
      rw [h29, show nI R - (1 : Int32) = nI (R - 1) from pk_sub (b := 1) (by omega)]
      exact br_t (nI_pos' (by omega)) ⟨_, l7_47 hR h29 hl (R - 1) (by omega) (by omega) (by omega) (h1 i he.symm)⟩
    · rw [if_neg c] at he
      refine br_f (fun z => c ((nI_leI (by omega) (by omega)).mp z)) ?_
      rw [show nI i + (-1 : Int32) = nI i - 1 from by rw [Int32.sub_eq_add_neg]]
      exact l7_7 hR h29 hl h0 h1 i (by omega) he
theorem s7_nextOrder {R : Nat} {S : St} {l : List Nat} {Q : Int32 → St → Prop} (hR : R ≤ 5) (h29 : S.1 29 = nI R) (hl : rpO S l R) (h0 : nxP R l = none → Q 0 S) (h1 : ∀ l', nxP R l = some l' → ∀ S', rpO S' l' R → frm [] [28] S S' → Q 1 S') : wp_X7_nextOrder S Q := by
  unfold wp_X7_nextOrder
  rw [h29]
  have k0 : fI l (R - 1) = 0 → Q 0 S := fun e => h0 (by unfold nxP; rw [e])
  have k1 : ∀ i, fI l (R - 1) = i + 1 → ∀ S', rpO S' (rv 6 (swp l i (fJ l (l.getD i 0) (R - 1))) (i + 1) (R - 1)) R → frm [] [28] S S' → Q 1 S' := fun i e => h1 _ (by unfold nxP; rw [e])
  rcases Nat.eq_zero_or_pos R with z | z
  · subst z
    refine ⟨1, ?_⟩
    unfold wp_X7_nextOrder_7 wp_X7_nextOrder_34
    exact br_t (by decide) (br_f (by decide) (k0 rfl))
  · refine ⟨R - 1 + 1, ?_⟩
    have e : nI R - (2 : Int32) = nI (R - 1) - 1 := by
      rw [show nI (R - 1) = nI R - 1 from (pk_sub (b := 1) (by omega)).symm, Int32.sub_eq_add_neg, Int32.sub_eq_add_neg, Int32.sub_eq_add_neg, Int32.add_assoc]
      rfl
    rw [e]
    exact l7_7 hR h29 hl k0 k1 (R - 1) (by omega) rfl
/-! all orders -/
theorem okO_j {ps g : Nat → Nat} : ∀ (l : List Nat) (i : Nat) (t : TV), i + l.length ≤ 6 → (∀ j, j < l.length → g (i + j) = l.getD j 0) → (okO ps l t = true → jgo (fun k => ps (g k)) l.length i t = -9) ∧ (okO ps l t = false → ∃ q, q < 6 ∧ jgo (fun k => ps (g k)) l.length i t = nI q)
  | [], i, t, _, _ => ⟨fun _ => rfl, fun h => by cases h⟩
  | x :: l, i, t, hl, hg => by
    have e : g i = x := hg 0 (by simp)
    have hl' : i + (l.length + 1) ≤ 6 := hl
    have ih := okO_j (ps := ps) (g := g) l (i + 1) (nbT t (ps x / 10) (ps x % 10)) (by omega) (fun j hj => by
      have := hg (j + 1) (by show j + 1 < l.length + 1; omega)
      rw [show i + 1 + j = i + (j + 1) by omega, this]; rfl)
    show (okO ps (x :: l) t = true → (if okp t (ps (g i) / 10) (ps (g i) % 10) then jgo (fun k => ps (g k)) l.length (i + 1) (nbT t (ps (g i) / 10) (ps (g i) % 10)) else nI i) = -9) ∧ (okO ps (x :: l) t = false → ∃ q, q < 6 ∧ (if okp t (ps (g i) / 10) (ps (g i) % 10) then jgo (fun k => ps (g k)) l.length (i + 1) (nbT t (ps (g i) / 10) (ps (g i) % 10)) else nI i) = nI q)
    rw [e]
    cases c : okp t (ps x / 10) (ps x % 10)
    · exact ⟨fun h => by simp [okO, c] at h, fun _ => ⟨i, by omega, if_neg (by decide)⟩⟩
    · rw [if_pos rfl]
      refine ⟨fun h => ih.1 ?_, fun h => ih.2 ?_⟩
      · simpa [okO, c] using h
      · simpa [okO, c] using h
theorem chB_c {R : Nat} {l : List Nat} {L : List (List Nat)} (h : chB R (l :: L) = true) : l.length = R ∧ (∀ i, i < R → l.getD i 0 < R) ∧ nxP R l = L.head? ∧ chB R L = true := by
  unfold chB at h
  simp only [Bool.and_eq_true, decide_eq_true_eq] at h
  obtain ⟨h1, h2, h3, h4⟩ := h
  refine ⟨h1, fun i hi => ?_, h3, h4⟩
  rw [List.all_eq_true] at h2
  have hm : i < l.length := by omega
  have e : l.getD i 0 = l[i] := by rw [List.getD_eq_getElem?_getD, List.getElem?_eq_getElem hm]; rfl
  rw [e]
  have := h2 _ (List.getElem_mem hm)
  simpa using this
theorem gd_0 {l : List Nat} {i : Nat} (h : l.length ≤ i) : l.getD i 0 = 0 := by
  rw [List.getD_eq_getElem?_getD, List.getElem?_eq_none h]; rfl
def cf7 (Y S : St) (t : TV) : Prop := absF (flM S) t ∧ frm [5, 6, 17, 18] [1, 2, 3, 4, 15, 28] Y S ∧ ∀ q, q < 34 → S.2 15 q = Y.2 15 q
theorem l7_c42a {Y S : St} {t : TV} {ps : Nat → Nat} {R n acc : Nat} {l : List Nat} {Q : Int32 → St → Prop} (ht : okT t) (hR : R ≤ 5) (hY29 : Y.1 29 = nI R) (hp : ∀ i, i < R → ps i < 100 ∧ Y.2 27 i = nI (ps i)) (hl : rpO S l R) (hlR : ∀ i, i < R → l.getD i 0 < R) (hS : cf7 Y S t)
    (fin : ∀ (x : Nat) (S' : St), x = (if okO ps l t then 1 else 0) → rpO S' l R → cf7 Y S' t → wp_X7_cards_59 (fun s0 v0 v1 => wp_X7_cards_42 Q n s0 v0 v1) Q S' (nI acc) (nI x)) : wp_X7_cards_42 Q (n + 1) S (nI acc) 1 := by
  obtain ⟨hF, hf, hq⟩ := hS
  unfold wp_X7_cards_42
  refine br_f (by decide) (s7_judged (t := t) (o := fun i => l.getD i 0) (ps := ps) hF ht (by rw [hf.1 29 (by decide)]; exact hY29) (by omega) (fun i hi => ⟨hl.2.1 i, hl.2.2 i hi⟩) (fun i hi => ⟨(hp _ (hlR i hi)).1, by rw [hf.2 27 (by decide)]; exact (hp _ (hlR i hi)).2⟩) (fun Y' g1 g2 g3 => ?_))
  have k1 : rpO Y' l R := ⟨hl.1, hl.2.1, fun i hi => by rw [g2.2 28 (by decide)]; exact hl.2.2 i hi⟩
  have k2 : cf7 Y Y' t := ⟨g1, hf.tr (g2.mono (fun s z => z) (fun s z => by simp at z ⊢; omega)), fun q h => (g3 q h).trans (hq q h)⟩
  have hj := okO_j (ps := ps) (g := fun k => l.getD k 0) l 0 t (by rw [hl.1]; omega) (fun j _ => by rw [Nat.zero_add])
  rw [hl.1] at hj
  cases c : okO ps l t
  · obtain ⟨q, q1, q2⟩ := hj.2 c
    show (0 ≤ jgo (fun k => ps (l.getD k 0)) R 0 t → _) ∧ (¬ 0 ≤ jgo (fun k => ps (l.getD k 0)) R 0 t → _)
    rw [q2]
    exact br_t (nI_pos' (by omega)) (fin 0 Y' (by rw [c]; rfl) k1 k2)
  · show (0 ≤ jgo (fun k => ps (l.getD k 0)) R 0 t → _) ∧ (¬ 0 ≤ jgo (fun k => ps (l.getD k 0)) R 0 t → _)
    rw [hj.1 c]
    exact br_f (by decide) (fin 1 Y' (by rw [c]; rfl) k1 k2)
theorem l7_c42 {Y : St} {t : TV} {ps : Nat → Nat} {R V : Nat} {Q : Int32 → St → Prop} (ht : okT t) (hR : R ≤ 5) (hY29 : Y.1 29 = nI R) (hp : ∀ i, i < R → ps i < 100 ∧ Y.2 27 i = nI (ps i)) (hQ : ∀ S, cf7 Y S t → Q (nI V) S) :
    ∀ (L : List (List Nat)) (l : List Nat) (acc : Nat) (S : St), chB R (l :: L) = true → acc + cntO ps t (l :: L) = V → rpO S l R → cf7 Y S t → wp_X7_cards_42 Q (L.length + 2) S (nI acc) 1
  | [], l, acc, S, hc, hV, hl, hS => by
    obtain ⟨c1, c2, c3, c4⟩ := chB_c hc
    refine l7_c42a (n := 1) ht hR hY29 hp hl c2 hS (fun x S' hx k1 k2 => ?_)
    unfold wp_X7_cards_59
    refine s7_nextOrder hR (by rw [k2.2.1.1 29 (by decide)]; exact hY29) k1 (fun _ => ?_) (fun l' e => by rw [c3] at e; cases e)
    unfold wp_X7_cards_42
    rw [nI_add]
    have : acc + x = V := by rw [cntO_c, ← hx] at hV; exact hV
    rw [this]
    exact br_t rfl (hQ S' k2)
  | l2 :: L, l, acc, S, hc, hV, hl, hS => by
    obtain ⟨c1, c2, c3, c4⟩ := chB_c hc
    refine l7_c42a (n := L.length + 2) ht hR hY29 hp hl c2 hS (fun x S' hx k1 k2 => ?_)
    unfold wp_X7_cards_59
    refine s7_nextOrder hR (by rw [k2.2.1.1 29 (by decide)]; exact hY29) k1 (fun e => by rw [c3] at e; cases e) (fun l' e S2 g1 g2 => ?_)
    rw [c3] at e
    have e' : l2 = l' := by simpa using e
    subst e'
    rw [nI_add]
    refine l7_c42 ht hR hY29 hp hQ L l2 (acc + x) S2 c4 (by rw [cntO_c, ← hx] at hV; omega) g1 ⟨flM_frm g2 (by decide) (by decide) k2.1, k2.2.1.tr (g2.mono (fun s z => absurd z List.not_mem_nil) (fun s z => by simp at z ⊢; omega)), fun q h => by rw [g2.2 15 (by decide)]; exact k2.2.2 q h⟩
theorem l7_c17 {Y : St} {R : Nat} {Q : Int32 → St → Prop} (hR : Y.1 29 = nI R) (hR6 : R ≤ 6) (h : ∀ S, frm [] [28] Y S → (∀ i, i < R → S.2 28 i = nI i) → ∃ n, wp_X7_cards_42 Q n S (0 : Int32) (1 : Int32)) :
    ∀ (m i : Nat) (S : St), i + m = R → frm [] [28] Y S → (∀ q, q < i → S.2 28 q = nI q) → wp_X7_cards_17 Q (m + 1) S (nI i)
  | 0, i, S, hi, hS, hq => by
    unfold wp_X7_cards_17
    have : i = R := by omega
    subst this
    rw [hS.1 29 (by decide), hR]
    exact br_t (nI_le (Nat.le_refl _) (by omega)) (h S hS hq)
  | m + 1, i, S, hi, hS, hq => by
    unfold wp_X7_cards_17
    rw [hS.1 29 (by decide), hR, nI_clamp (n := i) (by omega), nI_1]
    refine br_f (fun c => by rw [nI_leI (by omega) (by omega)] at c; omega) ⟨vp_in_nI (by omega) (by omega), fun S4 e4 => ?_⟩
    rw [e4]
    refine l7_c17 hR hR6 h m (i + 1) _ (by omega) (hS.tr (frm.sA 28 _ _)) (fun q hq2 => ?_)
    rw [sA_s]
    by_cases c : q = i
    · rw [c, upd_s]
    · rw [upd_n _ _ c]; exact hq q (by omega)
theorem rng_gd (R i : Nat) (h : i < R) : (List.range R).getD i 0 = i := by
  rw [List.getD_eq_getElem?_getD, List.getElem?_range h]; rfl
theorem ls_cards : LS_22 Inv := by
  rintro X Y ⟨G, hG, hX, hY⟩
  obtain ⟨x1, x2, x3, x4, x5, x6, x7, x8⟩ := id hX
  obtain ⟨y1, y2, y3, y4, y5, y6, y7, y8⟩ := id hY
  have ht := hG.1
  have hR := hG.2.2.2.1
  obtain ⟨ps, hps⟩ := row_ps hG
  unfold wp_X6_cards
  rw [x6]
  by_cases c5 : gR G ≤ 5
  · refine br_t (by rw [show (5 : Int32) = nI 5 from rfl, nI_leI (by omega) (by omega)]; exact c5) ?_
    unfold wp_X1_goodOrders
    refine s_copyFrom ht x1 (fun F' g1 S5 e5 => ?_)
    have e5' : S5 = (X.2.2.2.2.2.2.1, va_up X.2.2.2.2.2.2.2 0 F') := e5
    rw [e5']
    refine s_gof (ps := ps) x6 c5 (fun i hi => ⟨(hps i hi).1, (x7 i hi).trans (hps i hi).2⟩) (gR G) 8 0 (by omega) (by omega) _ (fun _ => false) 0 (gt G) _ ht (by rw [up_s]; exact g1) (fun i _ => b_0 i) (fun M' hM' S6 e6 => ?_)
    have hX6 : absX S6 G := by rw [e6]; exact hX
    have hcnt : cntO ps (gt G) (pms (gR G) (List.range (gR G))) = CO ps (gR G) (gR G) (fun _ => false) (gt G) := by
      rw [← cnt_pms]
      congr 2
      exact (List.filter_eq_self.mpr (fun _ _ => rfl)).symm
    obtain ⟨hc1, hc2⟩ := chB_all (gR G) c5
    unfold wp_X7_cards
    rw [y6]
    refine br_t (by rw [show (5 : Int32) = nI 5 from rfl, nI_leI (by omega) (by omega)]; exact c5) ⟨_, l7_c17 y6 hR (fun S fr hs => ?_) (gR G) 0 Y (by omega) frm.rf (fun q hq => by omega)⟩
    generalize pms (gR G) (List.range (gR G)) = LL at hcnt hc1 hc2
    cases LL with
    | nil => cases hc2
    | cons l L =>
      have el : l = List.range (gR G) := by simpa using hc2
      subst el
      refine ⟨_, l7_c42 (ps := ps) (R := gR G) (V := CO ps (gR G) (gR G) (fun _ => false) (gt G)) ht c5 y6 (fun i hi => ⟨(hps i hi).1, (y7 i hi).trans (hps i hi).2⟩) (fun S' k => ⟨rfl, G, hG, hX6, absY.of (t := gt G) hG hY k.1 k.2.1 (by decide) (by decide) k.2.2⟩) L _ 0 S hc1 (by rw [Nat.zero_add]; exact hcnt) ⟨List.length_range, fun i => ?_, fun i hi => by rw [rng_gd _ _ hi]; exact hs i hi⟩ ⟨flM_frm fr (by decide) (by decide) y1, fr.mono (fun s z => absurd z List.not_mem_nil) (fun s z => by simp at z ⊢; omega), fun q _ => by rw [fr.2 15 (by decide)]⟩⟩
      by_cases ci : i < gR G
      · rw [rng_gd _ _ ci]; omega
      · rw [gd_0 (by rw [List.length_range]; omega)]; omega
  · refine br_f (fun c => by rw [show (5 : Int32) = nI 5 from rfl, nI_leI (by omega) (by omega)] at c; omega) (s_refuse (k := 6) rfl (by omega) hX (fun X2 g1 => ?_))
    unfold wp_X7_cards
    rw [y6]
    exact br_f (fun c => by rw [show (5 : Int32) = nI 5 from rfl, nI_leI (by omega) (by omega)] at c; omega) (s7_no (k := 6) rfl (by omega) hY (fun Y2 g2 => ⟨rfl, _, hG.rf 6, g1, g2⟩))
