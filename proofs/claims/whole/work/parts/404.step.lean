/-! a dance by a told one -/
def oth2 (t : TV) (a b y : Nat) : Nat := low (fun x => brg t x a b && !decide (x = y))
def brT (t : TV) (a b y : Nat) : TV := if y < tn t then (if tl t = 1 then (if oth2 t a b y < tn t then incB (incB t y) (oth2 t a b y) else incB t y) else incB t y) else t
def stepT (t : TV) (a b y : Nat) : TV := addT (brT t a b y) a b
theorem brT_n (t : TV) (a b y : Nat) : tn (brT t a b y) = tn t := by
  unfold brT
  split
  · split
    · split <;> rfl
    · rfl
  · rfl
theorem brT_te (t : TV) (a b y : Nat) : te (brT t a b y) = te t := by
  unfold brT
  split
  · split
    · split <;> rfl
    · rfl
  · rfl
theorem okT_brT {t : TV} (ht : okT t) (a b y : Nat) : okT (brT t a b y) := by
  unfold brT
  split
  · split
    · split <;> exact ht
    · exact ht
  · exact ht
theorem absF.inc {F : St} {t : TV} (hF : absF F t) {i : Nat} : absF (sA F 4 i (F.2 4 i + 1)) (incB t i) := by
  obtain ⟨h1, h2, h3, h4, h5, h6⟩ := hF
  refine ⟨h1, h2, h3, h4, fun j hj => ?_, h6⟩
  show (sA F 4 i (F.2 4 i + 1)).2 4 j = if j = i then tb t j + 1 else tb t j
  rw [sA_s]
  by_cases c : j = i
  · subst c
    rw [upd_s, if_pos rfl, h5 j hj]
  · rw [upd_n _ _ c, if_neg c, h5 j hj]
theorem b_other {t : TV} (ht : okT t) (a b : Nat) {y : Nat} (hy : y < 31) (x : Nat) : bt (bmask t a b &&& (b1 y ^^^ (-1))) x = (brg t x a b && !decide (x = y)) := by
  rw [b_and, b_bmask t ht]
  rcases Nat.lt_or_ge x 32 with q | q
  · rw [b_not (by omega) q]
  · have hn := ht.1
    rw [brg_big ht (show tn t ≤ x by omega)]; simp
theorem low_other {t : TV} (ht : okT t) (a b : Nat) {y : Nat} (hy : y < 31) : low (bt (bmask t a b &&& (b1 y ^^^ (-1)))) = oth2 t a b y := lowF_congr 8 0 (fun j _ _ => b_other ht a b hy j)
theorem s_step_68 {F : St} {t : TV} {a b : Nat} {x3 : Int32} {Q : St → Prop} (hF : absF F t) (ht : okT t) (ha : a < tn t) (hb : b < tn t) (hab : a ≠ b) (h : ∀ F', absF F' (addT t a b) → Q F') : wp_X2_step_68 (nI a) (nI b) x3 Q F := by
  unfold wp_X2_step_68
  exact s_join hF ht ha hb hab h
theorem s_step_36 {F : St} {t : TV} {a b y o : Nat} {Q : St → Prop} (hF : absF F t) (ht : okT t) (ha : a < tn t) (hb : b < tn t) (hab : a ≠ b) (hy : y < tn t) (ho : o < 1000) (h : ∀ F', absF F' (addT (if o < tn t then incB (incB t y) o else incB t y) a b) → Q F') : wp_X2_step_36 (nI a) (nI b) (nI y) Q F (nI o) := by
  have hn := ht.1
  have hvy : vp_in (nI y) 8 := vp_in_nI (by omega) (by omega)
  unfold wp_X2_step_36
  rw [nI_clamp (n := y) (by omega)]
  refine ⟨hvy, hvy, fun S1 e1 => ?_⟩
  have h1 : absF S1 (incB t y) := by rw [e1]; exact hF.inc
  refine s_isThere h1 (ht.inc _) (fun i hi ei => br_f (by decide) ?_) (fun hno => br_t rfl ?_)
  · have hi' : i < tn t := hi
    have eo : o = i := (nI_inj8 (by omega) (by omega)).mp ei
    have hvo : vp_in (nI o) 8 := vp_in_nI (by omega) (by omega)
    rw [nI_clamp (n := o) (by omega)]
    refine ⟨hvo, hvo, fun S2 e2 => s_step_68 (t := incB (incB t y) o) (by rw [e2]; exact h1.inc) (ht.inc _) ha hb hab ?_⟩
    rw [if_pos (by omega)] at h
    exact h
  · refine s_step_68 (t := incB t y) h1 (ht.inc _) ha hb hab ?_
    have hno' : ¬ o < tn t := fun z => hno o z rfl
    rw [if_neg hno'] at h
    exact h
theorem s_step {F : St} {t : TV} {a b y : Nat} {Q : St → Prop} (hF : absF F t) (ht : okT t) (ha : a < tn t) (hb : b < tn t) (hab : a ≠ b) (hy : y < 31) (h : ∀ F', absF F' (stepT t a b y) → Q F') : wp_X2_step F (nI a) (nI b) (nI y) Q := by
  have hn := ht.1
  have hl := ht.2.1
  unfold stepT brT at h
  unfold wp_X2_step
  refine s_isThere hF ht (fun i hi ei => br_f (by decide) ?_) (fun hno => br_t rfl ?_)
  · have ey : y = i := (nI_inj8 (by omega) (by omega)).mp ei
    rw [if_pos (by omega)] at h
    rw [hF.2.1]
    by_cases c : tl t = 1
    · rw [if_pos c] at h
      refine bn_f (by rw [c]; rfl) (s_whoBring hF ht ha hb (s_leastOf ?_))
      have e : low (bt (bmask t a b &&& ((1 : Int32) <<< (nI y &&& 31) ^^^ (-1)))) = oth2 t a b y := low_other ht a b hy
      rw [e]
      have ho : oth2 t a b y < 1000 := by
        unfold oth2
        rcases low_spec (fun x => brg t x a b && !decide (x = y)) with ⟨q, _⟩ | ⟨q, _⟩ <;> omega
      exact s_step_36 hF ht ha hb hab (by omega) ho h
    · rw [if_neg c] at h
      refine bn_t (fun z => c ((nI_inj8 (b := 1) (by omega) (by omega)).mp z)) (s_step_36 (o := 9) hF ht ha hb hab (by omega) (by omega) ?_)
      rw [if_neg (by omega)]
      exact h
  · rw [if_neg (fun z => hno y z rfl)] at h
    exact s_step_68 hF ht ha hb hab h
theorem s7_dances {Y : St} {t : TV} {a b y : Nat} {Q : St → Prop} (hF : absF (flM Y) t) (ht : okT t) (ha : a < tn t) (hb : b < tn t) (hab : a ≠ b) (hy : y < tn t ∨ y = 9) (h : ∀ Y', absF (flM Y') (stepT t a b y) → frm [] [3, 4] Y Y' → Q Y') : wp_X7_dances Y (nI a) (nI b) (nI y) Q := by
  have hn := ht.1
  have hl := ht.2.1
  unfold wp_X7_dances
  by_cases c9 : y = 9
  · refine br_t (by rw [c9]; rfl) (s7_joins hF ht ha hb hab (fun Y' h1 h2 => h Y' ?_ (h2.mono (fun s z => z) (fun s z => List.mem_cons_of_mem _ z))))
    unfold stepT brT
    rw [if_neg (by omega)]
    exact h1
  · have hy' : y < tn t := by omega
    have hvy : vp_in (nI y) 8 := vp_in_nI (by omega) (by omega)
    refine br_f (fun z => c9 ((nI_inj8 (b := 9) (by omega) (by omega)).mp z)) (s7_bringersOf hF ht ha hb ?_)
    intro z ez
    rw [nI_clamp (n := y) (by omega)]
    refine ⟨hvy, hvy, fun S1 e1 => ?_⟩
    have h1 : absF (flM S1) (incB t y) := by rw [e1, flM_sA _ 2]; exact hF.inc
    have f1 : frm [] [3, 4] Y S1 := by rw [e1]; exact (frm.sA 3 _ _).mono (fun s z => z) (fun s z => by simp at z; simp [z])
    have hz : ∀ x, bt z x = (brg t x a b && !decide (x = y)) := by rw [ez]; exact b_other ht a b (by omega)
    have hlow : low (bt z) = oth2 t a b y := lowF_congr 8 0 (fun j _ _ => hz j)
    have e6 : S1.1 6 = nI (tl t) := by rw [e1]; exact hF.2.1
    unfold stepT brT at h
    rw [if_pos hy'] at h
    rw [e6]
    by_cases c : tl t = 1
    · rw [if_pos c] at h
      refine bn_f (by rw [c]; rfl) ?_
      by_cases c0 : z = 0
      · have ho : ¬ oth2 t a b y < tn t := by
          rw [← hlow]
          rcases low_spec (bt z) with ⟨q, _⟩ | ⟨_, q, _⟩
          · omega
          · rw [c0, b_0] at q; cases q
        rw [if_neg ho] at h
        exact br_t c0 (s7_joins h1 (ht.inc _) ha hb hab (fun Y' g1 g2 => h Y' g1 (f1.tr (g2.mono (fun s z => z) (fun s z => List.mem_cons_of_mem _ z)))))
      · have hex : ∃ j, j < 8 ∧ bt z j = true := by
          refine Classical.byContradiction (fun q => c0 (b_ext (fun i _ => ?_)))
          rw [b_0]
          cases w : bt z i
          · rfl
          · refine absurd ⟨i, ?_, w⟩ q
            rw [hz i] at w
            simp only [Bool.and_eq_true] at w
            have := brg_lt ht w.1
            omega
        refine br_f c0 (s7_lowest hex ?_)
        rw [hlow]
        have ho : oth2 t a b y < tn t := by
          rw [← hlow]
          rcases low_spec (bt z) with ⟨_, q⟩ | ⟨_, q, _⟩
          · obtain ⟨j, j1, j2⟩ := hex
            rw [q j j1] at j2; cases j2
          · rw [hz] at q
            simp only [Bool.and_eq_true] at q
            exact brg_lt ht q.1
        rw [if_pos ho] at h
        have hvo : vp_in (nI (oth2 t a b y)) 8 := vp_in_nI (by omega) (by omega)
        rw [nI_clamp (n := oth2 t a b y) (by omega)]
        refine ⟨hvo, hvo, fun S2 e2 => ?_⟩
        have h2 : absF (flM S2) (incB (incB t y) (oth2 t a b y)) := by rw [e2, flM_sA _ 2]; exact h1.inc
        have f2 : frm [] [3, 4] S1 S2 := by rw [e2]; exact (frm.sA 3 _ _).mono (fun s z => z) (fun s z => by simp at z; simp [z])
        exact s7_joins h2 (ht.inc _) ha hb hab (fun Y' g1 g2 => h Y' g1 ((f1.tr f2).tr (g2.mono (fun s z => z) (fun s z => List.mem_cons_of_mem _ z))))
    · rw [if_neg c] at h
      exact bn_t (fun z => c ((nI_inj8 (b := 1) (by omega) (by omega)).mp z)) (s7_joins h1 (ht.inc _) ha hb hab (fun Y' g1 g2 => h Y' g1 (f1.tr (g2.mono (fun s z => z) (fun s z => List.mem_cons_of_mem _ z)))))
/-! a dance by the least -/
def lstB (t : TV) (a b : Nat) : Nat := low (fun x => brg t x a b)
def nbT (t : TV) (a b : Nat) : TV := stepT t a b (lstB t a b)
theorem lstB_or {t : TV} (ht : okT t) (a b : Nat) : lstB t a b < tn t ∨ lstB t a b = 9 := by
  unfold lstB
  rcases low_spec (fun x => brg t x a b) with ⟨q, _⟩ | ⟨_, q, _⟩
  · exact Or.inr q
  · exact Or.inl (brg_lt ht q)
theorem low_wy {t : TV} (a b : Nat) (h : may t a b = true) : low (bt (mkI (wy t a b) 10)) = lstB t a b := by
  show lowF (bt (mkI (wy t a b) 10)) 0 8 = lowF (fun x => brg t x a b) 0 8
  refine lowF_congr 8 0 (fun j _ hj => ?_)
  rw [b_mkI _ _ 10 (by omega)]
  unfold may at h
  simp only [Bool.and_eq_true, Bool.not_eq_true', Bool.or_eq_true, decide_eq_true_eq] at h
  have h9 : j ≠ 9 := by omega
  have h10 : j < 10 := by omega
  cases d : csn t a b
  · rw [d] at h
    have : need t ≤ cbr t a b := by simpa using h.2
    simp [wy, h.1, d, this, h10]
  · simp [wy, h.1, d, h9, h10]
theorem s_stepByLeast {F : St} {t : TV} {x y : Int32} {Q : Int32 → St → Prop} (hF : absF F t) (ht : okT t) (h1 : ∀ a b, a < tn t → b < tn t → a ≠ b → x = nI a → y = nI b → may t a b = true → ∀ F', absF F' (nbT t a b) → Q 1 F') (h0 : ¬ (∃ a b, a < tn t ∧ b < tn t ∧ a ≠ b ∧ x = nI a ∧ y = nI b ∧ may t a b = true) → Q 0 F) : wp_X2_stepByLeast F x y Q := by
  have hn := ht.1
  unfold wp_X2_stepByLeast
  refine s_areTwo hF ht (fun a b ha hb hab ex ey => bn_t (by decide) ?_) (fun hno => bn_f rfl (h0 ?_))
  · subst ex; subst ey
    refine s_waysToDance hF ht ha hb ?_
    cases c : may t a b
    · refine bn_f ((wy_may a b).mpr c) (h0 ?_)
      rintro ⟨p, q, g1, g2, g3, g4, g5, g6⟩
      rw [nI_inj8 (by omega) (by omega)] at g4 g5
      subst g4; subst g5
      rw [c] at g6; cases g6
    · refine bn_t (fun e => by rw [(wy_may a b).mp e] at c; cases c) (s_leastOf ?_)
      rw [low_wy a b c]
      exact s_step hF ht ha hb hab (by rcases lstB_or ht a b with q | q <;> omega) (h1 a b ha hb hab rfl rfl c)
  · rintro ⟨p, q, g1, g2, g3, g4, g5, _⟩
    exact hno ⟨p, q, g1, g2, g3, g4, g5⟩
theorem s7_dancesByLeast {Y : St} {t : TV} {a b : Nat} {Q : St → Prop} (hF : absF (flM Y) t) (ht : okT t) (ha : a < tn t) (hb : b < tn t) (hab : a ≠ b) (h : ∀ Y', absF (flM Y') (nbT t a b) → frm [] [3, 4] Y Y' → Q Y') : wp_X7_dancesByLeast Y (nI a) (nI b) Q := by
  have hn := ht.1
  unfold wp_X7_dancesByLeast
  refine s7_bringersOf hF ht ha hb ?_
  have hlow : low (bt (bmask t a b)) = lstB t a b := lowF_congr 8 0 (fun j _ _ => b_bmask t ht a b j)
  by_cases c : bmask t a b = 0
  · refine bn_f c (s7_dances (y := 9) hF ht ha hb hab (Or.inr rfl) ?_)
    have e : lstB t a b = 9 := by
      rw [← hlow, c]
      rcases low_spec (bt 0) with ⟨q, _⟩ | ⟨_, q, _⟩
      · exact q
      · rw [b_0] at q; cases q
    unfold nbT at h
    rw [e] at h
    exact h
  · have hex : ∃ j, j < 8 ∧ bt (bmask t a b) j = true := by
      refine Classical.byContradiction (fun q => c (b_ext (fun i _ => ?_)))
      rw [b_0]
      cases w : bt (bmask t a b) i
      · rfl
      · refine absurd ⟨i, ?_, w⟩ q
        rw [b_bmask t ht] at w
        have := brg_lt ht w
        omega
    refine bn_t c (s7_lowest hex ?_)
    rw [hlow]
    exact s7_dances hF ht ha hb hab (lstB_or ht a b) h
theorem s7_canBy {Y : St} {t : TV} {a b : Nat} {x : Int32} {Q : Int32 → St → Prop} (hF : absF (flM Y) t) (ht : okT t) (ha : a < tn t) (hb : b < tn t) (h1 : ∀ y, y ≤ 9 → x = nI y → Q (b2i (if y = 9 then csn t a b else brg t y a b)) Y) (h0 : (∀ y, y ≤ 9 → x ≠ nI y) → Q 0 Y) : wp_X7_canBy Y (nI a) (nI b) x Q := by
  have hn := ht.1
  unfold wp_X7_canBy
  by_cases c : x = 9
  · refine bn_f c (s7_cousins hF ht ha hb ⟨b2i_bz _, ?_⟩)
    have := h1 9 (by omega) c
    rw [if_pos rfl] at this
    exact this
  · refine bn_t c (s7_isDancer hF ht (fun y hy ey => br_f (by decide) (s7_bringersOf hF ht ha hb ?_)) (fun hno => br_t rfl ?_))
    · have h := h1 y (by omega) ey
      rw [if_neg (by omega)] at h
      rw [ey, b_sel (by omega), b_bmask t ht]
      cases d : brg t y a b
      · rw [d] at h; exact bn_t (by decide) h
      · rw [d] at h; exact bn_f rfl h
    · by_cases d : ∃ y, y ≤ 9 ∧ x = nI y
      · obtain ⟨y, hy, ey⟩ := d
        have h := h1 y hy ey
        have h9 : y ≠ 9 := fun e => c (by rw [ey, e]; rfl)
        rw [if_neg h9, brg_big ht (Nat.le_of_not_lt (fun z => hno y z ey))] at h
        exact h
      · exact h0 (fun y hy ey => d ⟨y, hy, ey⟩)
theorem wy_can {t : TV} (ht : okT t) {a b y : Nat} (hy : y ≤ 9) : wy t a b y = (may t a b && (if y = 9 then csn t a b else brg t y a b)) := by
  have hn := ht.1
  unfold wy may
  by_cases c : y = 9
  · subst c
    rw [brg_big ht (show tn t ≤ 9 by omega), if_pos rfl]
    cases te t a b <;> cases csn t a b <;> simp
  · rw [if_neg c]
    cases te t a b <;> cases csn t a b <;> simp [c]
theorem s_isAllowedBy {F : St} {t : TV} {a b : Nat} {x : Int32} {Q : Int32 → St → Prop} (hF : absF F t) (ht : okT t) (ha : a < tn t) (hb : b < tn t) (h1 : ∀ y, y ≤ 9 → x = nI y → Q (b2i (wy t a b y)) F) (h0 : (∀ y, y ≤ 9 → x ≠ nI y) → Q 0 F) : wp_X2_isAllowedBy F (nI a) (nI b) x Q := by
  have hn := ht.1
  unfold wp_X2_isAllowedBy
  by_cases c0 : x < 0
  · exact br_t c0 (h0 (fun y hy e => by rw [e] at c0; exact absurd c0 (nI_pos (by omega))))
  · refine br_f c0 ?_
    by_cases c9 : (9 : Int32) < x
    · refine br_t c9 (h0 (fun y hy e => ?_))
      rw [e, show (9 : Int32) = nI 9 from rfl, nI_ltI (by omega) (by omega)] at c9
      omega
    · refine br_f c9 (s_waysToDance hF ht ha hb ?_)
      obtain ⟨y, hy, ey⟩ : ∃ y, y ≤ 9 ∧ x = nI y := by
        obtain ⟨j, hj, e⟩ := nI_of c0
        refine ⟨j, ?_, e⟩
        rw [e, show (9 : Int32) = nI 9 from rfl, nI_ltI (by omega) (by omega)] at c9
        omega
      have h := h1 y hy ey
      rw [ey]
      refine s_hasBit (by omega) ?_
      rw [b_mkI _ _ 10 (by omega), show decide (y < 10) = true by simp; omega, Bool.true_and]
      exact bb (fun d => by rw [d] at h; exact h) (fun d => by rw [d] at h; exact h)
