/-! load: the reference -/
def byv (ps : Nat → Nat) (s : LSt) (k y : Nat) : Nat := if csn s.1 (ps k / 10) (ps k % 10) then 9 else y
def vC (ps : Nat → Nat) (s : LSt) (k y : Nat) : Bool := okp s.1 (ps k / 10) (ps k % 10) && (if csn s.1 (ps k / 10) (ps k % 10) then decide (y = 0) else brg s.1 y (ps k / 10) (ps k % 10))
def sq (ps : Nat → Nat) (s0 : LSt) (c : Nat → Nat) : Nat → LSt
  | 0 => s0
  | k + 1 => nsb ps (sq ps s0 c k) k (byv ps (sq ps s0 c k) k (c k))
theorem sq_s (ps : Nat → Nat) (s0 : LSt) (c : Nat → Nat) (k : Nat) : sq ps s0 c (k + 1) = nsb ps (sq ps s0 c k) k (byv ps (sq ps s0 c k) k (c k)) := rfl
theorem sq_congr {ps : Nat → Nat} {s0 : LSt} {c c' : Nat → Nat} : ∀ {k : Nat}, (∀ j, j < k → c' j = c j) → sq ps s0 c' k = sq ps s0 c k
  | 0, _ => rfl
  | k + 1, h => by rw [sq_s, sq_s, sq_congr (k := k) (fun j hj => h j (by omega)), h k (by omega)]
theorem vC_wb {ps : Nat → Nat} {s : LSt} {k y : Nat} (h : vC ps s k y = true) : wb ps s k (byv ps s k y) = true := by
  unfold vC at h
  unfold wb byv
  rw [Bool.and_eq_true] at h ⊢
  refine ⟨h.1, ?_⟩
  have h2 := h.2
  cases c : csn s.1 (ps k / 10) (ps k % 10)
  · rw [c, if_neg (by decide)] at h2
    rw [if_neg (by decide), if_neg (by decide)]; exact h2
  · rw [if_pos rfl, if_pos rfl]; rfl
theorem wb_vC {ps : Nat → Nat} {s : LSt} {k y : Nat} (ht : okT s.1) (h : wb ps s k y = true) : ∃ y', y' < 8 ∧ vC ps s k y' = true ∧ byv ps s k y' = y := by
  have hn := ht.1
  unfold wb at h
  rw [Bool.and_eq_true] at h
  have h2 := h.2
  cases c : csn s.1 (ps k / 10) (ps k % 10)
  · rw [c, if_neg (by decide)] at h2
    have := brg_lt ht h2
    refine ⟨y, by omega, ?_, ?_⟩
    · unfold vC; rw [h.1, c, if_neg (by decide), h2]; rfl
    · unfold byv; rw [c, if_neg (by decide)]
  · rw [c, if_pos rfl] at h2
    refine ⟨0, by omega, ?_, ?_⟩
    · unfold vC; rw [h.1, c]; rfl
    · unfold byv; rw [c, if_pos rfl]
      have : y = 9 := by simpa using h2
      exact this.symm
theorem okL_sq {ps : Nat → Nat} {t0 : TV} {s0 : LSt} {c : Nat → Nat} (h0 : okL t0 s0) : ∀ {k : Nat}, (∀ j, j < k → vC ps (sq ps s0 c j) j (c j) = true) → okL t0 (sq ps s0 c k)
  | 0, _ => h0
  | k + 1, h => by
    rw [sq_s]
    exact okL_n (okL_sq h0 (k := k) (fun j hj => h j (by omega))) (vC_wb (h k (by omega)))
theorem sq_mo {ps : Nat → Nat} {s0 : LSt} {c : Nat → Nat} (h0 : ∀ z, s0.2.1 z ≤ s0.2.2) : ∀ k : Nat, (∀ z, (sq ps s0 c k).2.1 z ≤ (sq ps s0 c k).2.2) ∧ (sq ps s0 c k).2.2 ≤ s0.2.2 + k
  | 0 => ⟨h0, Nat.le_refl _⟩
  | k + 1 => by
    obtain ⟨h1, h2⟩ := sq_mo (ps := ps) (c := c) h0 k
    obtain ⟨g1, g2⟩ := nsb_ld (ps := ps) k (byv ps (sq ps s0 c k) k (c k)) h1
    rw [sq_s]
    exact ⟨g1, by omega⟩
theorem c_Ld {ps : Nat → Nat} {s0 : LSt} {c : Nat → Nat} : ∀ (m k : Nat), (∀ j, k ≤ j → j < k + m → vC ps (sq ps s0 c j) j (c j) = true) → Ld ps m k (sq ps s0 c k) (sq ps s0 c (k + m)).2.2
  | 0, k, _ => rfl
  | m + 1, k, h => by
    refine ⟨byv ps (sq ps s0 c k) k (c k), vC_wb (h k (Nat.le_refl _) (by omega)), ?_⟩
    have := c_Ld (ps := ps) (s0 := s0) (c := c) m (k + 1) (fun j h1 h2 => h j (by omega) (by omega))
    rw [sq_s, show k + 1 + m = k + (m + 1) by omega] at this
    exact this
theorem Ld_c {ps : Nat → Nat} {t0 : TV} {s0 : LSt} {v : Nat} : ∀ (m k : Nat) (c : Nat → Nat), okL t0 (sq ps s0 c k) → Ld ps m k (sq ps s0 c k) v → ∃ c' : Nat → Nat, (∀ j, j < k → c' j = c j) ∧ (∀ j, k ≤ j → j < k + m → c' j < 8 ∧ vC ps (sq ps s0 c' j) j (c' j) = true) ∧ v = (sq ps s0 c' (k + m)).2.2
  | 0, k, c, _, h => ⟨c, fun _ _ => rfl, fun j h1 h2 => by omega, h⟩
  | m + 1, k, c, hs, ⟨y, hw, h⟩ => by
    obtain ⟨y', q1, q2, q3⟩ := wb_vC hs.1 hw
    have ec : sq ps s0 (fun j => if j = k then y' else c j) k = sq ps s0 c k := sq_congr (fun j hj => if_neg (by omega))
    have e : sq ps s0 (fun j => if j = k then y' else c j) (k + 1) = nsb ps (sq ps s0 c k) k y := by
      rw [sq_s, ec]
      show nsb ps _ k (byv ps _ k (if k = k then y' else c k)) = _
      rw [if_pos rfl, q3]
    obtain ⟨c', g1, g2, g3⟩ := Ld_c (t0 := t0) m (k + 1) (fun j => if j = k then y' else c j) (by rw [e]; exact okL_n hs hw) (by rw [e]; exact h)
    have gk : c' k = y' := by rw [g1 k (by omega)]; exact if_pos rfl
    have gj : ∀ j, j < k → c' j = c j := fun j hj => by rw [g1 j (by omega)]; exact if_neg (by omega)
    refine ⟨c', gj, fun j h1 h2 => ?_, by rw [g3, show k + 1 + m = k + (m + 1) by omega]⟩
    by_cases cj : j = k
    · subst cj
      rw [gk, sq_congr gj]
      exact ⟨q1, q2⟩
    · exact g2 j (by omega) (by omega)
/-! one choice looked at -/
theorem s7_okp {S : St} {t : TV} {a b : Nat} {A B : St → Prop} (hF : absF (flM S) t) (ht : okT t) (ha : a < 1000) (hb : b < 1000) (h1 : okp t a b = true → A S) (h0 : okp t a b = false → B S) :
    wp_X7_areTwo S (nI a) (nI b) (fun r u => ((r = 0) → B u) ∧ ((¬ r = 0) → wp_X7_mayDance u (nI a) (nI b) (fun r2 u2 => ((r2 = 0) → B u2) ∧ ((¬ r2 = 0) → A u2)))) := by
  have hn := ht.1
  refine s7_areTwo hF ht (fun p q g1 g2 g3 g4 g5 => br_f (by decide) ?_) (fun hno => br_t rfl (h0 ?_))
  · rw [nI_inj8 ha (by omega)] at g4
    rw [nI_inj8 hb (by omega)] at g5
    subst g4; subst g5
    refine s7_mayDance hF ht g1 g2 (bb (fun c => h0 ?_) (fun c => h1 (okp_iff.mpr ⟨g1, g2, g3, c⟩)))
    unfold okp
    rw [c]; simp
  · cases c : okp t a b
    · rfl
    · obtain ⟨g1, g2, g3, g4⟩ := okp_iff.mp c
      exact absurd ⟨a, b, g1, g2, g3, rfl, rfl⟩ hno
theorem lb_step {S : St} {ps : Nat → Nat} {t0 : TV} {s : LSt} {R k n y : Nat} {Q : Int32 → St → Prop} (hs : okL t0 s) (hk : k < R) (hR6 : R ≤ 6) (h29 : S.1 29 = nI R) (h32 : S.1 32 = nI R) (h27 : S.2 27 k = nI (ps k)) (hp : ps k < 100) (h30 : S.2 30 k = nI y) (hy : y < 8) (hF : absF (flM S) s.1) (hld : ∀ z, z < 8 → S.2 31 z = nI (s.2.1 z)) (hmo : s.2.2 < 100)
    (h1 : vC ps s k y = true → ∀ S', absF (flM S') (nsb ps s k (byv ps s k y)).1 → frm [] [3, 4, 31] S S' → (∀ z, z < 8 → S'.2 31 z = nI ((nsb ps s k (byv ps s k y)).2.1 z)) → wp_X7_loadBy_39 Q n S' (nI (nsb ps s k (byv ps s k y)).2.2) (nI (k + 1)))
    (h0 : vC ps s k y = false → wp_X7_loadBy_39 Q n (sI S 32 (nI k)) (nI s.2.2) (nI (k + 1))) : wp_X7_loadBy_39 Q (n + 1) S (nI s.2.2) (nI k) := by
  have ht := hs.1
  have hn := ht.1
  have hv6 : vp_in (nI k) 6 := vp_in_nI (by omega) (by omega)
  have k168 : vC ps s k y = false → wp_X7_loadBy_168 (fun s0 v0 v1 => wp_X7_loadBy_39 Q n s0 v0 v1) Q S (nI s.2.2) (nI k) := by
    intro h
    unfold wp_X7_loadBy_168
    intro S20 e20
    rw [e20, nI_1]
    exact h0 h
  unfold wp_X7_loadBy_39
  rw [h29, h32, nI_clamp (n := k) (by omega), h27]
  refine br_f (fun c => by rw [nI_leI (by omega) (by omega)] at c; omega) (bn_f rfl ⟨hv6, fun z11 e11 => ⟨hv6, fun z13 e13 => ?_⟩⟩)
  rw [rem10 hp] at e13
  rw [div10 hp] at e11
  rw [e11, e13]
  refine s7_okp (A := fun u => wp_X7_loadBy_104 (fun s0 v0 v1 => wp_X7_loadBy_39 Q n s0 v0 v1) Q u (nI s.2.2) (nI k) (nI (ps k / 10)) (nI (ps k % 10)) 1) (B := fun u => wp_X7_loadBy_104 (fun s0 v0 v1 => wp_X7_loadBy_39 Q n s0 v0 v1) Q u (nI s.2.2) (nI k) (nI (ps k / 10)) (nI (ps k % 10)) 0) hF ht (by omega) (by omega) (fun co => ?_) (fun co => ?_)
  · obtain ⟨ha, hb, hab, hm⟩ := okp_iff.mp co
    unfold wp_X7_loadBy_104
    refine br_f (by decide) (s7_cousins hF ht ha hb (bb (fun cc => ?_) (fun cc => ?_)))
    · have eb : byv ps s k y = y := by unfold byv; rw [cc]; exact if_neg (by decide)
      unfold wp_X7_loadBy_126
      rw [nI_clamp (n := k) (by omega), h30]
      refine br_f (by decide) (bn_f rfl ⟨hv6, s7_canBy hF ht ha hb (fun y2 hy2 ey2 => ?_) (fun z => absurd rfl (z y (by omega)))⟩)
      have : y = y2 := (nI_inj8 (by omega) (by omega)).mp ey2
      subst this
      rw [if_neg (by omega)]
      refine bb (fun d => k168 (by unfold vC; rw [cc, if_neg (by decide), d]; simp)) (fun d => ?_)
      have hv : vC ps s k y = true := by unfold vC; rw [co, cc, if_neg (by decide), d]; rfl
      have hy' := brg_lt ht d
      have h1' := h1 hv
      rw [eb] at h1'
      unfold wp_X7_loadBy_154
      refine br_t rfl ?_
      unfold wp_X7_loadBy_176
      rw [nI_clamp (n := k) (by omega), h30]
      refine br_t rfl ⟨hv6, ?_⟩
      unfold wp_X7_loadBy_196
      refine s7_dances hF ht ha hb hab (Or.inl hy') (fun u g1 g2 => br_t rfl ⟨hv6, ?_⟩)
      have u30 : u.2 30 k = nI y := by rw [g2.2 30 (by decide)]; exact h30
      have hvy : vp_in (nI y) 8 := vp_in_nI (by omega) (by omega)
      rw [nI_clamp (n := k) (by omega), u30, nI_clamp (n := y) (by omega)]
      refine ⟨hvy, hvy, fun S28 e28 => ⟨hv6, ?_⟩⟩
      have v30 : S28.2 30 k = nI y := by rw [e28, sA_n _ _ _ (by decide)]; exact u30
      have u31 : ∀ z, z < 8 → u.2 31 z = nI (s.2.1 z) := fun z hz => by rw [g2.2 31 (by decide)]; exact hld z hz
      have v31 : ∀ z, z < 8 → S28.2 31 z = nI (if z = y then s.2.1 z + 1 else s.2.1 z) := fun z hz => by
        rw [e28, sA_s]
        by_cases w : z = y
        · rw [w, upd_s, if_pos rfl, u31 y hy, nI_1]
        · rw [upd_n _ _ w, if_neg w, u31 z hz]
      have f28 : frm [] [3, 4, 31] S S28 := by
        rw [e28]
        exact (g2.mono (fun s z => z) (fun s z => by simp at z ⊢; omega)).tr ((frm.sA 31 _ _).mono (fun s z => z) (fun s z => by simp at z ⊢; omega))
      have F28 : absF (flM S28) (nsb ps s k y).1 := by
        refine flM_frm (Y := u) (is := []) (as := [31]) ?_ (by decide) (by decide) g1
        rw [e28]; exact frm.sA 31 _ _
      have l28 : ∀ z, z < 8 → S28.2 31 z = nI ((nsb ps s k y).2.1 z) := fun z hz => by
        rw [v31 z hz]
        show _ = nI ((if y = 9 then s.2.1 else (fun z => if z = y then s.2.1 z + 1 else s.2.1 z)) z)
        rw [if_neg (show ¬ y = 9 by omega)]
      have hly := hs.2.2.2.2 y
      have e2 : (nsb ps s k y).2.2 = if s.2.2 < s.2.1 y + 1 then s.2.1 y + 1 else s.2.2 := if_neg (by omega)
      have w31 : S28.2 31 y = nI (s.2.1 y + 1) := by rw [v31 y hy, if_pos rfl]
      rw [v30, nI_clamp (n := y) (by omega), w31, nI_1 k]
      refine ⟨hvy, ?_⟩
      have h1'' := h1' S28 F28 f28 l28
      rw [e2] at h1''
      by_cases w : s.2.2 < s.2.1 y + 1
      · rw [if_pos w] at h1''
        exact br_f (fun z => by rw [nI_leI (by omega) (by omega)] at z; omega) ⟨hv6, hvy, fun z31 e31 => by rw [e31]; exact h1''⟩
      · rw [if_neg w] at h1''
        exact br_t (nI_le (by omega) (by omega)) h1''
    · have eb : byv ps s k y = 9 := by unfold byv; rw [cc]; exact if_pos rfl
      unfold wp_X7_loadBy_126
      refine br_f (by decide) (bn_t (by decide) ?_)
      unfold wp_X7_loadBy_154
      rw [nI_clamp (n := k) (by omega), h30]
      refine br_f (by decide) ⟨hv6, ?_⟩
      by_cases w : y = 0
      · refine br_t (by rw [w]; decide) ?_
        have hv : vC ps s k y = true := by unfold vC; rw [co, cc, if_pos rfl, w]; rfl
        have h1' := h1 hv
        rw [eb] at h1'
        unfold wp_X7_loadBy_176
        refine br_f (by decide) ?_
        unfold wp_X7_loadBy_196
        refine s7_dances (y := 9) hF ht ha hb hab (Or.inr rfl) (fun u g1 g2 => br_f (by decide) ?_)
        rw [nI_1]
        refine h1' u g1 (g2.mono (fun s z => z) (fun s z => by simp at z ⊢; omega)) (fun z hz => ?_)
        rw [g2.2 31 (by decide)]; exact hld z hz
      · refine br_f (nI_nle (by omega) (by omega)) (k168 ?_)
        unfold vC; rw [cc, if_pos rfl]; simp [w]
  · unfold wp_X7_loadBy_104
    refine br_t rfl ?_
    unfold wp_X7_loadBy_126
    exact br_t rfl (k168 (by unfold vC; rw [co]; rfl))
/-! the whole row with one choice -/
def lI (Y4 : St) (s : LSt) (S : St) : Prop := absF (flM S) s.1 ∧ frm [] [3, 4, 31] Y4 S ∧ ∀ z, z < 8 → S.2 31 z = nI (s.2.1 z)
def rw7 (S : St) (ps c : Nat → Nat) (R : Nat) : Prop := S.1 29 = nI R ∧ (∀ i, i < R → ps i < 100 ∧ S.2 27 i = nI (ps i)) ∧ ∀ i, i < R → c i < 8 ∧ S.2 30 i = nI (c i)
theorem rw7.fr {S S' : St} {ps c : Nat → Nat} {R : Nat} {is as : List Nat} (h : rw7 S ps c R) (hf : frm is as S S') (hi : 29 ∉ is) (ha : 27 ∉ as ∧ 30 ∉ as) : rw7 S' ps c R := by
  refine ⟨(hf.1 29 hi).trans h.1, fun i hi' => ?_, fun i hi' => ?_⟩
  · rw [hf.2 27 ha.1]; exact h.2.1 i hi'
  · rw [hf.2 30 ha.2]; exact h.2.2 i hi'
theorem lb_run {Y4 : St} {ps c : Nat → Nat} {t0 : TV} {s0 : LSt} {R k0 n : Nat} {Q : Int32 → St → Prop} (h0 : okL t0 s0) (hmo0 : s0.2.2 = 0) (hR6 : R ≤ 6) (hk0 : k0 ≤ R) (hr : rw7 Y4 ps c R) (h32 : Y4.1 32 = nI R) (hv : ∀ j, j < k0 → vC ps (sq ps s0 c j) j (c j) = true) (h : ∀ S, lI Y4 (sq ps s0 c k0) S → wp_X7_loadBy_39 Q n S (nI (sq ps s0 c k0).2.2) (nI k0)) :
    ∀ (m k : Nat) (S : St), k + m = k0 → lI Y4 (sq ps s0 c k) S → wp_X7_loadBy_39 Q (m + n) S (nI (sq ps s0 c k).2.2) (nI k)
  | 0, k, S, hk, hS => by
    have : k = k0 := by omega
    subst this
    rw [Nat.zero_add]; exact h S hS
  | m + 1, k, S, hk, hS => by
    rw [show m + 1 + n = m + n + 1 by omega]
    have hr' := hr.fr hS.2.1 (by decide) (by decide)
    have hb := (sq_mo (ps := ps) (c := c) h0.2.2.2.2 k).2
    refine lb_step (okL_sq h0 (fun j hj => hv j (by omega))) (by omega) hR6 hr'.1 ((hS.2.1.1 32 (by decide)).trans h32) (hr'.2.1 k (by omega)).2 (hr'.2.1 k (by omega)).1 (hr'.2.2 k (by omega)).2 (hr'.2.2 k (by omega)).1 hS.1 hS.2.2 (by omega) (fun _ S' g1 g2 g3 => ?_) (fun z => by rw [hv k (by omega)] at z; cases z)
    rw [← sq_s] at g1 g3 ⊢
    exact lb_run h0 hmo0 hR6 hk0 hr h32 hv h m (k + 1) S' (by omega) ⟨g1, hS.2.1.tr g2, g3⟩
theorem lb_8 {Y1 : St} {Q : Int32 → St → Prop} (h : ∀ S, frm [] [31] Y1 S → (∀ z, z < 8 → S.2 31 z = 0) → ∀ S4, S4 = sI S 32 (S.1 29) → ∃ i, wp_X7_loadBy_39 Q i S4 (0 : Int32) (0 : Int32)) :
    ∀ (m i : Nat) (S : St), i + m = 8 → frm [] [31] Y1 S → (∀ z, z < i → S.2 31 z = 0) → wp_X7_loadBy_8 Q (m + 1) S (nI i)
  | 0, i, S, hi, hS, hz => by
    unfold wp_X7_loadBy_8
    have : i = 8 := by omega
    subst this
    exact br_t (by decide) (h S hS hz)
  | m + 1, i, S, hi, hS, hz => by
    unfold wp_X7_loadBy_8
    rw [nI_clamp (n := i) (by omega), nI_1]
    refine br_f (fun c => by rw [show (8 : Int32) = nI 8 from rfl, nI_leI (by omega) (by omega)] at c; omega) ⟨vp_in_nI (by omega) (by omega), fun S44 e44 => ?_⟩
    rw [e44]
    refine lb_8 h m (i + 1) _ (by omega) (hS.tr (frm.sA 31 _ _)) (fun z hz2 => ?_)
    rw [sA_s]
    by_cases c : z = i
    · rw [c, upd_s]
    · rw [upd_n _ _ c]; exact hz z (by omega)
def lf7 (Y S : St) (t : TV) : Prop := absF (flM S) t ∧ frm [5, 6, 17, 18, 32] [1, 2, 3, 4, 15, 31] Y S ∧ ∀ q, q < 34 → S.2 15 q = Y.2 15 q
theorem s7_loadBy {Y : St} {ps c : Nat → Nat} {t : TV} {R : Nat} {Q : Int32 → St → Prop} (hF : absF (flM Y) t) (ht : okT t) (hl : tl t ≠ 1) (hR6 : R ≤ 6) (hr : rw7 Y ps c R)
    (hg : (∀ j, j < R → vC ps (sq ps (s0L t) c j) j (c j) = true) → ∀ S, lf7 Y S t → S.1 32 = nI R → Q (nI (sq ps (s0L t) c R).2.2) S)
    (hb : ∀ f, f < R → (∀ j, j < f → vC ps (sq ps (s0L t) c j) j (c j) = true) → vC ps (sq ps (s0L t) c f) f (c f) = false → ∀ S, lf7 Y S t → S.1 32 = nI f → Q (-9) S) : wp_X7_loadBy Y Q := by
  have h0 := okL_0 ht hl
  unfold wp_X7_loadBy
  refine s_passesAllK (w := 1) (by omega) (fun Y1 f1 hkk hq => ⟨9, lb_8 (fun S2 f2 z2 S4 e4 => ?_) 8 0 Y1 rfl frm.rf (fun z hz => by omega)⟩)
  have f12 : frm [17, 18] [15, 31] Y S2 := (f1.mono (fun s z => z) (fun s z => by simp at z ⊢; omega)).tr (f2.mono (fun s z => absurd z List.not_mem_nil) (fun s z => by simp at z ⊢; omega))
  have hr2 : rw7 S2 ps c R := hr.fr f12 (by decide) (by decide)
  rw [hr2.1] at e4
  have f4 : frm [17, 18, 32] [15, 31] Y S4 := by
    rw [e4]
    exact (f12.mono (fun s z => by simp at z ⊢; omega) (fun s z => z)).tr ((frm.sI 32 _).mono (fun s z => by simp at z ⊢; omega) (fun s z => absurd z List.not_mem_nil))
  have hr4 : rw7 S4 ps c R := hr.fr f4 (by decide) (by decide)
  have h32 : S4.1 32 = nI R := by rw [e4, sI_s]
  have hF4 : absF (flM S4) t := flM_frm f4 (by decide) (by decide) hF
  have e15 : S4.2 15 = Y1.2 15 := by rw [e4, sI_2]; exact f2.2 15 (by decide)
  have hl4 : lI S4 (sq ps (s0L t) c 0) S4 := ⟨hF4, frm.rf, fun z hz => by rw [e4, sI_2, z2 z hz]; rfl⟩
  have k259 : ∀ S (x1 : Int32) (f : Nat), f ≤ R → frm [32] [3, 4, 31] S4 S → S.1 32 = nI f → (∀ u, lf7 Y u t → u.1 32 = nI f → (f = R → Q x1 u) ∧ (f ≠ R → Q (-9) u)) → wp_X7_loadBy_259 Q S x1 := by
    intro S x1 f hf hS hS32 hQ
    unfold wp_X7_loadBy_259
    refine s_passesAllR (w := 1) (by omega) (fun u g1 g2 => ?_)
    have u32 : u.1 32 = nI f := (g1.1 32 (by decide)).trans hS32
    have u29 : u.1 29 = nI R := by rw [g1.1 29 (by decide), hS.1 29 (by decide)]; exact hr4.1
    have u15 : S.2 15 = Y1.2 15 := (hS.2 15 (by decide)).trans e15
    have hu : lf7 Y u t := by
      refine ⟨g2 t ht.1 (by rw [flK_frm u15]; exact hkk t ht.1 hF), ?_, fun q hq' => ?_⟩
      · exact ((f4.mono (fun s z => by simp at z ⊢; omega) (fun s z => by simp at z ⊢; omega)).tr (hS.mono (fun s z => by simp at z ⊢; omega) (fun s z => by simp at z ⊢; omega))).tr (g1.mono (fun s z => by simp at z ⊢; omega) (fun s z => by simp at z ⊢; omega))
      · rw [g1.2 15 (by decide), u15]; exact hq q (by omega)
    obtain ⟨q1, q2⟩ := hQ u hu u32
    rw [u32, u29]
    by_cases w : f = R
    · exact bn_f (by rw [w]) (q1 w)
    · exact bn_t (fun z => w ((nI_inj8 (by omega) (by omega)).mp z)) (q2 w)
  rcases dich2 (fun j => vC ps (sq ps (s0L t) c j) j (c j) = true) R with ⟨f, hfR, hf1, hf2⟩ | hv
  · have hf2' : vC ps (sq ps (s0L t) c f) f (c f) = false := by simpa using hf2
    refine ⟨_, lb_run (n := 2) h0 rfl hR6 (by omega) hr4 h32 hf1 (fun S hS => ?_) f 0 S4 (by omega) hl4⟩
    have hr' := hr4.fr hS.2.1 (by decide) (by decide)
    have hb' := (sq_mo (ps := ps) (c := c) h0.2.2.2.2 f).2
    have hz : (s0L t).2.2 = 0 := rfl
    refine lb_step (okL_sq h0 hf1) hfR hR6 hr'.1 ((hS.2.1.1 32 (by decide)).trans h32) (hr'.2.1 f hfR).2 (hr'.2.1 f hfR).1 (hr'.2.2 f hfR).2 (hr'.2.2 f hfR).1 hS.1 hS.2.2 (by omega) (fun z => by rw [hf2'] at z; cases z) (fun _ => ?_)
    have g259 : wp_X7_loadBy_259 Q (sI S 32 (nI f)) (nI (sq ps (s0L t) c f).2.2) := k259 _ _ f (by omega) ((hS.2.1.mono (fun s z => absurd z List.not_mem_nil) (fun s z => z)).tr ((frm.sI 32 _).mono (fun s z => z) (fun s z => absurd z List.not_mem_nil))) (sI_s _ _ _) (fun u hu u32 => ⟨fun e => by omega, fun _ => hb f hfR hf1 hf2' u hu u32⟩)
    unfold wp_X7_loadBy_39
    rw [sI_s, sI_n _ _ (by decide), hr'.1]
    by_cases w : R ≤ f + 1
    · exact br_t (nI_le w (by omega)) g259
    · exact br_f (fun z => w ((nI_leI (by omega) (by omega)).mp z)) (bn_t (fun z => by have := (nI_inj8 (by omega) (by omega)).mp z; omega) g259)
  · refine ⟨_, lb_run (n := 1) h0 rfl hR6 (Nat.le_refl _) hr4 h32 hv (fun S hS => ?_) R 0 S4 (by omega) hl4⟩
    have hr' := hr4.fr hS.2.1 (by decide) (by decide)
    unfold wp_X7_loadBy_39
    rw [hr'.1]
    exact br_t (nI_le (Nat.le_refl _) (by omega)) (k259 _ _ R (Nat.le_refl _) (hS.2.1.mono (fun s z => absurd z List.not_mem_nil) (fun s z => z)) ((hS.2.1.1 32 (by decide)).trans h32) (fun u hu u32 => ⟨fun _ => hg hv u hu u32, fun e => absurd rfl e⟩))
