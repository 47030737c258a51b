/-! the reference's keeping: passes, passesAll -/
def stK (Y : St) (j c i : Nat) : St := (upd Y.1 18 (nI (c + i)), va_up Y.2 15 (fun q => if c ≤ q ∧ q < c + i then Y.2 j (q - c) else Y.2 15 q))
def stR (Y : St) (j c i : Nat) : St := (upd Y.1 18 (nI (c + i)), va_up Y.2 j (fun q => if q < i then Y.2 15 (c + q) else Y.2 j q))
theorem stK_15 (Y : St) (j c i q : Nat) : (stK Y j c i).2 15 q = if c ≤ q ∧ q < c + i then Y.2 j (q - c) else Y.2 15 q := congrFun (show va_up Y.2 15 (fun q => if c ≤ q ∧ q < c + i then Y.2 j (q - c) else Y.2 15 q) 15 = _ from if_pos rfl) q
theorem stK_n (Y : St) (j c i : Nat) {s : Nat} (h : s ≠ 15) : (stK Y j c i).2 s = Y.2 s := if_neg h
theorem stK_18 (Y : St) (j c i : Nat) : (stK Y j c i).1 18 = nI (c + i) := upd_s Y.1 18 (nI (c + i))
theorem stK_i (Y : St) (j c i : Nat) {s : Nat} (h : s ≠ 18) : (stK Y j c i).1 s = Y.1 s := upd_n _ _ h
theorem stR_j (Y : St) (j c i q : Nat) : (stR Y j c i).2 j q = if q < i then Y.2 15 (c + q) else Y.2 j q := congrFun (show va_up Y.2 j (fun q => if q < i then Y.2 15 (c + q) else Y.2 j q) j = _ from if_pos rfl) q
theorem stR_n (Y : St) (j c i : Nat) {s : Nat} (h : s ≠ j) : (stR Y j c i).2 s = Y.2 s := if_neg h
theorem stR_18 (Y : St) (j c i : Nat) : (stR Y j c i).1 18 = nI (c + i) := upd_s Y.1 18 (nI (c + i))
theorem stR_i (Y : St) (j c i : Nat) {s : Nat} (h : s ≠ 18) : (stR Y j c i).1 s = Y.1 s := upd_n _ _ h
theorem St_ext {A B : St} (h1 : ∀ s, A.1 s = B.1 s) (h2 : ∀ s q, A.2 s q = B.2 s q) : A = B := Prod.ext (funext h1) (funext (fun s => funext (h2 s)))
theorem stK_0 {Y : St} {j c : Nat} (h : Y.1 18 = nI c) : stK Y j c 0 = Y := by
  refine St_ext (fun s => ?_) (fun s q => ?_)
  · by_cases e : s = 18
    · rw [e, stK_18, h]; rfl
    · exact stK_i _ _ _ _ e
  · by_cases e : s = 15
    · rw [e, stK_15, if_neg (by omega)]
    · rw [stK_n _ _ _ _ e]
theorem stK_s (Y : St) {j c i : Nat} : sI (sA (stK Y j c i) 15 (c + i) (Y.2 j i)) 18 (nI (c + i) + 1) = stK Y j c (i + 1) := by
  refine St_ext (fun s => ?_) (fun s q => ?_)
  · by_cases e : s = 18
    · rw [e, sI_s, stK_18, nI_1]; rfl
    · rw [sI_n _ _ e, sA_1, stK_i _ _ _ _ e, stK_i _ _ _ _ e]
  · rw [sI_2]
    by_cases e : s = 15
    · rw [e, sA_s, stK_15]
      by_cases d : q = c + i
      · rw [d, upd_s, if_pos (by omega), show c + i - c = i by omega]
      · rw [upd_n _ _ d, stK_15]
        by_cases f : c ≤ q ∧ q < c + i
        · rw [if_pos f, if_pos (by omega)]
        · rw [if_neg f, if_neg (by omega)]
    · rw [sA_n _ _ _ e, stK_n _ _ _ _ e, stK_n _ _ _ _ e]
theorem stR_0 {Y : St} {j c : Nat} (h : Y.1 18 = nI c) : stR Y j c 0 = Y := by
  refine St_ext (fun s => ?_) (fun s q => ?_)
  · by_cases e : s = 18
    · rw [e, stR_18, h]; rfl
    · exact stR_i _ _ _ _ e
  · by_cases e : s = j
    · rw [e, stR_j, if_neg (by omega)]
    · rw [stR_n _ _ _ _ e]
theorem stR_s (Y : St) {j c i : Nat} : sI (sA (stR Y j c i) j i (Y.2 15 (c + i))) 18 (nI (c + i) + 1) = stR Y j c (i + 1) := by
  refine St_ext (fun s => ?_) (fun s q => ?_)
  · by_cases e : s = 18
    · rw [e, sI_s, stR_18, nI_1]; rfl
    · rw [sI_n _ _ e, sA_1, stR_i _ _ _ _ e, stR_i _ _ _ _ e]
  · rw [sI_2]
    by_cases e : s = j
    · rw [e, sA_s, stR_j]
      by_cases d : q = i
      · rw [d, upd_s, if_pos (by omega)]
      · rw [upd_n _ _ d, stR_j]
        by_cases f : q < i
        · rw [if_pos f, if_pos (by omega)]
        · rw [if_neg f, if_neg (by omega)]
    · rw [sA_n _ _ _ e, stR_n _ _ _ _ e, stR_n _ _ _ _ e]
theorem l_passK_1 {Y : St} {c : Nat} {Q : St → Prop} (hc : c + 8 ≤ 400) (hk : ¬ Y.1 17 = 0) (h : Q (stK Y 1 c 8)) : ∀ (m i : Nat), i + m = 8 → wp_X7_passes_1_2 Q (m + 1) (stK Y 1 c i) (nI i)
  | 0, i, hi => by
    unfold wp_X7_passes_1_2
    have : i = 8 := by omega
    subst this
    exact br_t (by decide) h
  | m + 1, i, hi => by
    have ih := l_passK_1 hc hk h m (i + 1) (by omega)
    unfold wp_X7_passes_1_2
    refine br_f (fun z => by rw [show (8 : Int32) = nI 8 from rfl, nI_leI (by omega) (by omega)] at z; omega) ?_
    have e17 : (stK Y 1 c i).1 17 = Y.1 17 := stK_i _ _ _ _ (by decide)
    have e18 : (stK Y 1 c i).1 18 = nI (c + i) := stK_18 _ _ _ _
    have ej : (stK Y 1 c i).2 1 = Y.2 1 := stK_n _ _ _ _ (by decide)
    rw [e17, e18, ej, nI_clamp (n := i) (by omega), nI_clamp (n := c + i) (by omega)]
    refine br_f hk ⟨vp_in_nI (by omega) (by omega), vp_in_nI (by omega) (by omega), fun S1 e1 => ?_⟩
    unfold wp_X7_passes_1_42
    intro S2 e2
    have e3 : S2 = stK Y 1 c (i + 1) := by
      rw [e2, ← stK_s Y, e1]
      rw [show (sA (stK Y 1 c i) 15 (c + i) (Y.2 1 i)).1 18 = nI (c + i) from e18]
    rw [e3, nI_1]
    exact ih
theorem l_passR_1 {Y : St} {c : Nat} {Q : St → Prop} (hc : c + 8 ≤ 400) (hk : Y.1 17 = 0) (h : Q (stR Y 1 c 8)) : ∀ (m i : Nat), i + m = 8 → wp_X7_passes_1_2 Q (m + 1) (stR Y 1 c i) (nI i)
  | 0, i, hi => by
    unfold wp_X7_passes_1_2
    have : i = 8 := by omega
    subst this
    exact br_t (by decide) h
  | m + 1, i, hi => by
    have ih := l_passR_1 hc hk h m (i + 1) (by omega)
    unfold wp_X7_passes_1_2
    refine br_f (fun z => by rw [show (8 : Int32) = nI 8 from rfl, nI_leI (by omega) (by omega)] at z; omega) ?_
    have e17 : (stR Y 1 c i).1 17 = Y.1 17 := stR_i _ _ _ _ (by decide)
    have e18 : (stR Y 1 c i).1 18 = nI (c + i) := stR_18 _ _ _ _
    have ej : (stR Y 1 c i).2 15 = Y.2 15 := stR_n _ _ _ _ (by decide)
    rw [e17, e18, ej, nI_clamp (n := i) (by omega), nI_clamp (n := c + i) (by omega)]
    refine br_t hk ⟨vp_in_nI (by omega) (by omega), vp_in_nI (by omega) (by omega), fun S1 e1 => ?_⟩
    unfold wp_X7_passes_1_42
    intro S2 e2
    have e3 : S2 = stR Y 1 c (i + 1) := by
      rw [e2, ← stR_s Y, e1]
      rw [show (sA (stR Y 1 c i) 1 i (Y.2 15 (c + i))).1 18 = nI (c + i) from e18]
    rw [e3, nI_1]
    exact ih
theorem s_passK_1 {Y : St} {c : Nat} {Q : St → Prop} (hc : c + 8 ≤ 400) (h18 : Y.1 18 = nI c) (hk : ¬ Y.1 17 = 0) (h : Q (stK Y 1 c 8)) : wp_X7_passes_1 Y Q := by
  have := l_passK_1 hc hk h 8 0 rfl
  rw [stK_0 h18] at this
  exact ⟨9, this⟩
theorem s_passR_1 {Y : St} {c : Nat} {Q : St → Prop} (hc : c + 8 ≤ 400) (h18 : Y.1 18 = nI c) (hk : Y.1 17 = 0) (h : Q (stR Y 1 c 8)) : wp_X7_passes_1 Y Q := by
  have := l_passR_1 hc hk h 8 0 rfl
  rw [stR_0 h18] at this
  exact ⟨9, this⟩
theorem l_passK_2 {Y : St} {c : Nat} {Q : St → Prop} (hc : c + 8 ≤ 400) (hk : ¬ Y.1 17 = 0) (h : Q (stK Y 2 c 8)) : ∀ (m i : Nat), i + m = 8 → wp_X7_passes_2_2 Q (m + 1) (stK Y 2 c i) (nI i)
  | 0, i, hi => by
    unfold wp_X7_passes_2_2
    have : i = 8 := by omega
    subst this
    exact br_t (by decide) h
  | m + 1, i, hi => by
    have ih := l_passK_2 hc hk h m (i + 1) (by omega)
    unfold wp_X7_passes_2_2
    refine br_f (fun z => by rw [show (8 : Int32) = nI 8 from rfl, nI_leI (by omega) (by omega)] at z; omega) ?_
    have e17 : (stK Y 2 c i).1 17 = Y.1 17 := stK_i _ _ _ _ (by decide)
    have e18 : (stK Y 2 c i).1 18 = nI (c + i) := stK_18 _ _ _ _
    have ej : (stK Y 2 c i).2 2 = Y.2 2 := stK_n _ _ _ _ (by decide)
    rw [e17, e18, ej, nI_clamp (n := i) (by omega), nI_clamp (n := c + i) (by omega)]
    refine br_f hk ⟨vp_in_nI (by omega) (by omega), vp_in_nI (by omega) (by omega), fun S1 e1 => ?_⟩
    unfold wp_X7_passes_2_42
    intro S2 e2
    have e3 : S2 = stK Y 2 c (i + 1) := by
      rw [e2, ← stK_s Y, e1]
      rw [show (sA (stK Y 2 c i) 15 (c + i) (Y.2 2 i)).1 18 = nI (c + i) from e18]
    rw [e3, nI_1]
    exact ih
theorem l_passR_2 {Y : St} {c : Nat} {Q : St → Prop} (hc : c + 8 ≤ 400) (hk : Y.1 17 = 0) (h : Q (stR Y 2 c 8)) : ∀ (m i : Nat), i + m = 8 → wp_X7_passes_2_2 Q (m + 1) (stR Y 2 c i) (nI i)
  | 0, i, hi => by
    unfold wp_X7_passes_2_2
    have : i = 8 := by omega
    subst this
    exact br_t (by decide) h
  | m + 1, i, hi => by
    have ih := l_passR_2 hc hk h m (i + 1) (by omega)
    unfold wp_X7_passes_2_2
    refine br_f (fun z => by rw [show (8 : Int32) = nI 8 from rfl, nI_leI (by omega) (by omega)] at z; omega) ?_
    have e17 : (stR Y 2 c i).1 17 = Y.1 17 := stR_i _ _ _ _ (by decide)
    have e18 : (stR Y 2 c i).1 18 = nI (c + i) := stR_18 _ _ _ _
    have ej : (stR Y 2 c i).2 15 = Y.2 15 := stR_n _ _ _ _ (by decide)
    rw [e17, e18, ej, nI_clamp (n := i) (by omega), nI_clamp (n := c + i) (by omega)]
    refine br_t hk ⟨vp_in_nI (by omega) (by omega), vp_in_nI (by omega) (by omega), fun S1 e1 => ?_⟩
    unfold wp_X7_passes_2_42
    intro S2 e2
    have e3 : S2 = stR Y 2 c (i + 1) := by
      rw [e2, ← stR_s Y, e1]
      rw [show (sA (stR Y 2 c i) 2 i (Y.2 15 (c + i))).1 18 = nI (c + i) from e18]
    rw [e3, nI_1]
    exact ih
theorem s_passK_2 {Y : St} {c : Nat} {Q : St → Prop} (hc : c + 8 ≤ 400) (h18 : Y.1 18 = nI c) (hk : ¬ Y.1 17 = 0) (h : Q (stK Y 2 c 8)) : wp_X7_passes_2 Y Q := by
  have := l_passK_2 hc hk h 8 0 rfl
  rw [stK_0 h18] at this
  exact ⟨9, this⟩
theorem s_passR_2 {Y : St} {c : Nat} {Q : St → Prop} (hc : c + 8 ≤ 400) (h18 : Y.1 18 = nI c) (hk : Y.1 17 = 0) (h : Q (stR Y 2 c 8)) : wp_X7_passes_2 Y Q := by
  have := l_passR_2 hc hk h 8 0 rfl
  rw [stR_0 h18] at this
  exact ⟨9, this⟩
theorem l_passK_3 {Y : St} {c : Nat} {Q : St → Prop} (hc : c + 8 ≤ 400) (hk : ¬ Y.1 17 = 0) (h : Q (stK Y 3 c 8)) : ∀ (m i : Nat), i + m = 8 → wp_X7_passes_3_2 Q (m + 1) (stK Y 3 c i) (nI i)
  | 0, i, hi => by
    unfold wp_X7_passes_3_2
    have : i = 8 := by omega
    subst this
    exact br_t (by decide) h
  | m + 1, i, hi => by
    have ih := l_passK_3 hc hk h m (i + 1) (by omega)
    unfold wp_X7_passes_3_2
    refine br_f (fun z => by rw [show (8 : Int32) = nI 8 from rfl, nI_leI (by omega) (by omega)] at z; omega) ?_
    have e17 : (stK Y 3 c i).1 17 = Y.1 17 := stK_i _ _ _ _ (by decide)
    have e18 : (stK Y 3 c i).1 18 = nI (c + i) := stK_18 _ _ _ _
    have ej : (stK Y 3 c i).2 3 = Y.2 3 := stK_n _ _ _ _ (by decide)
    rw [e17, e18, ej, nI_clamp (n := i) (by omega), nI_clamp (n := c + i) (by omega)]
    refine br_f hk ⟨vp_in_nI (by omega) (by omega), vp_in_nI (by omega) (by omega), fun S1 e1 => ?_⟩
    unfold wp_X7_passes_3_42
    intro S2 e2
    have e3 : S2 = stK Y 3 c (i + 1) := by
      rw [e2, ← stK_s Y, e1]
      rw [show (sA (stK Y 3 c i) 15 (c + i) (Y.2 3 i)).1 18 = nI (c + i) from e18]
    rw [e3, nI_1]
    exact ih
theorem l_passR_3 {Y : St} {c : Nat} {Q : St → Prop} (hc : c + 8 ≤ 400) (hk : Y.1 17 = 0) (h : Q (stR Y 3 c 8)) : ∀ (m i : Nat), i + m = 8 → wp_X7_passes_3_2 Q (m + 1) (stR Y 3 c i) (nI i)
  | 0, i, hi => by
    unfold wp_X7_passes_3_2
    have : i = 8 := by omega
    subst this
    exact br_t (by decide) h
  | m + 1, i, hi => by
    have ih := l_passR_3 hc hk h m (i + 1) (by omega)
    unfold wp_X7_passes_3_2
    refine br_f (fun z => by rw [show (8 : Int32) = nI 8 from rfl, nI_leI (by omega) (by omega)] at z; omega) ?_
    have e17 : (stR Y 3 c i).1 17 = Y.1 17 := stR_i _ _ _ _ (by decide)
    have e18 : (stR Y 3 c i).1 18 = nI (c + i) := stR_18 _ _ _ _
    have ej : (stR Y 3 c i).2 15 = Y.2 15 := stR_n _ _ _ _ (by decide)
    rw [e17, e18, ej, nI_clamp (n := i) (by omega), nI_clamp (n := c + i) (by omega)]
    refine br_t hk ⟨vp_in_nI (by omega) (by omega), vp_in_nI (by omega) (by omega), fun S1 e1 => ?_⟩
    unfold wp_X7_passes_3_42
    intro S2 e2
    have e3 : S2 = stR Y 3 c (i + 1) := by
      rw [e2, ← stR_s Y, e1]
      rw [show (sA (stR Y 3 c i) 3 i (Y.2 15 (c + i))).1 18 = nI (c + i) from e18]
    rw [e3, nI_1]
    exact ih
theorem s_passK_3 {Y : St} {c : Nat} {Q : St → Prop} (hc : c + 8 ≤ 400) (h18 : Y.1 18 = nI c) (hk : ¬ Y.1 17 = 0) (h : Q (stK Y 3 c 8)) : wp_X7_passes_3 Y Q := by
  have := l_passK_3 hc hk h 8 0 rfl
  rw [stK_0 h18] at this
  exact ⟨9, this⟩
theorem s_passR_3 {Y : St} {c : Nat} {Q : St → Prop} (hc : c + 8 ≤ 400) (h18 : Y.1 18 = nI c) (hk : Y.1 17 = 0) (h : Q (stR Y 3 c 8)) : wp_X7_passes_3 Y Q := by
  have := l_passR_3 hc hk h 8 0 rfl
  rw [stR_0 h18] at this
  exact ⟨9, this⟩
theorem l_passK_4 {Y : St} {c : Nat} {Q : St → Prop} (hc : c + 8 ≤ 400) (hk : ¬ Y.1 17 = 0) (h : Q (stK Y 4 c 8)) : ∀ (m i : Nat), i + m = 8 → wp_X7_passes_4_2 Q (m + 1) (stK Y 4 c i) (nI i)
  | 0, i, hi => by
    unfold wp_X7_passes_4_2
    have : i = 8 := by omega
    subst this
    exact br_t (by decide) h
  | m + 1, i, hi => by
    have ih := l_passK_4 hc hk h m (i + 1) (by omega)
    unfold wp_X7_passes_4_2
    refine br_f (fun z => by rw [show (8 : Int32) = nI 8 from rfl, nI_leI (by omega) (by omega)] at z; omega) ?_
    have e17 : (stK Y 4 c i).1 17 = Y.1 17 := stK_i _ _ _ _ (by decide)
    have e18 : (stK Y 4 c i).1 18 = nI (c + i) := stK_18 _ _ _ _
    have ej : (stK Y 4 c i).2 4 = Y.2 4 := stK_n _ _ _ _ (by decide)
    rw [e17, e18, ej, nI_clamp (n := i) (by omega), nI_clamp (n := c + i) (by omega)]
    refine br_f hk ⟨vp_in_nI (by omega) (by omega), vp_in_nI (by omega) (by omega), fun S1 e1 => ?_⟩
    unfold wp_X7_passes_4_42
    intro S2 e2
    have e3 : S2 = stK Y 4 c (i + 1) := by
      rw [e2, ← stK_s Y, e1]
      rw [show (sA (stK Y 4 c i) 15 (c + i) (Y.2 4 i)).1 18 = nI (c + i) from e18]
    rw [e3, nI_1]
    exact ih
theorem l_passR_4 {Y : St} {c : Nat} {Q : St → Prop} (hc : c + 8 ≤ 400) (hk : Y.1 17 = 0) (h : Q (stR Y 4 c 8)) : ∀ (m i : Nat), i + m = 8 → wp_X7_passes_4_2 Q (m + 1) (stR Y 4 c i) (nI i)
  | 0, i, hi => by
    unfold wp_X7_passes_4_2
    have : i = 8 := by omega
    subst this
    exact br_t (by decide) h
  | m + 1, i, hi => by
    have ih := l_passR_4 hc hk h m (i + 1) (by omega)
    unfold wp_X7_passes_4_2
    refine br_f (fun z => by rw [show (8 : Int32) = nI 8 from rfl, nI_leI (by omega) (by omega)] at z; omega) ?_
    have e17 : (stR Y 4 c i).1 17 = Y.1 17 := stR_i _ _ _ _ (by decide)
    have e18 : (stR Y 4 c i).1 18 = nI (c + i) := stR_18 _ _ _ _
    have ej : (stR Y 4 c i).2 15 = Y.2 15 := stR_n _ _ _ _ (by decide)
    rw [e17, e18, ej, nI_clamp (n := i) (by omega), nI_clamp (n := c + i) (by omega)]
    refine br_t hk ⟨vp_in_nI (by omega) (by omega), vp_in_nI (by omega) (by omega), fun S1 e1 => ?_⟩
    unfold wp_X7_passes_4_42
    intro S2 e2
    have e3 : S2 = stR Y 4 c (i + 1) := by
      rw [e2, ← stR_s Y, e1]
      rw [show (sA (stR Y 4 c i) 4 i (Y.2 15 (c + i))).1 18 = nI (c + i) from e18]
    rw [e3, nI_1]
    exact ih
theorem s_passK_4 {Y : St} {c : Nat} {Q : St → Prop} (hc : c + 8 ≤ 400) (h18 : Y.1 18 = nI c) (hk : ¬ Y.1 17 = 0) (h : Q (stK Y 4 c 8)) : wp_X7_passes_4 Y Q := by
  have := l_passK_4 hc hk h 8 0 rfl
  rw [stK_0 h18] at this
  exact ⟨9, this⟩
theorem s_passR_4 {Y : St} {c : Nat} {Q : St → Prop} (hc : c + 8 ≤ 400) (h18 : Y.1 18 = nI c) (hk : Y.1 17 = 0) (h : Q (stR Y 4 c 8)) : wp_X7_passes_4 Y Q := by
  have := l_passR_4 hc hk h 8 0 rfl
  rw [stR_0 h18] at this
  exact ⟨9, this⟩
/-- a floor that is kept at a place -/
def flK (Y : St) (w : Nat) : St := (fun s => if s = 0 then Y.2 15 (40 * w + 32) else Y.2 15 (40 * w + 33), fun s i => Y.2 15 (40 * w + 8 * (s - 2) + i))
theorem s_passOneK {Y : St} {c : Nat} {x : Int32} {Q : Int32 → St → Prop} (hc : c < 400) (h18 : Y.1 18 = nI c) (hk : ¬ Y.1 17 = 0) (h : Q x (sI (sA Y 15 c x) 18 (nI (c + 1)))) : wp_X7_passOne Y x Q := by
  unfold wp_X7_passOne
  refine br_f hk ?_
  unfold wp_X7_passOne_20
  refine br_f hk ?_
  rw [h18, nI_clamp (n := c) (by omega)]
  refine ⟨vp_in_nI (by omega) (by omega), fun S1 e1 => ?_⟩
  unfold wp_X7_passOne_38
  intro S2 e2
  rw [e2, e1, show (sA Y 15 c x).1 18 = nI c from h18, nI_1]
  exact h
theorem s_passOneR {Y : St} {c : Nat} {x : Int32} {Q : Int32 → St → Prop} (hc : c < 400) (h18 : Y.1 18 = nI c) (hk : Y.1 17 = 0) (h : Q (Y.2 15 c) (sI Y 18 (nI (c + 1)))) : wp_X7_passOne Y x Q := by
  unfold wp_X7_passOne
  rw [h18, nI_clamp (n := c) (by omega)]
  refine br_t hk ⟨vp_in_nI (by omega) (by omega), ?_⟩
  unfold wp_X7_passOne_20
  refine br_t hk ?_
  unfold wp_X7_passOne_38
  intro S2 e2
  rw [e2, h18, nI_1]
  exact h
theorem absF.eq8 {F G : St} {t : TV} (ht : tn t ≤ 8) (hF : absF F t) (h0 : G.1 0 = F.1 0) (h1 : G.1 1 = F.1 1) (h2 : ∀ i, i < 8 → G.2 2 i = F.2 2 i) (h3 : ∀ i, i < 8 → G.2 3 i = F.2 3 i) (h4 : ∀ i, i < 8 → G.2 4 i = F.2 4 i) (h5 : ∀ i, i < 8 → G.2 5 i = F.2 5 i) : absF G t := by
  obtain ⟨g1, g2, g3, g4, g5, g6⟩ := hF
  exact ⟨h0.trans g1, h1.trans g2, fun i hi => (h2 i (by omega)).trans (g3 i hi), fun i hi => (h3 i (by omega)).trans (g4 i hi), fun i hi => (h4 i (by omega)).trans (g5 i hi), fun i hi j => by rw [h5 i (by omega)]; exact g6 i hi j⟩
theorem keep_c {w : Nat} : (40 : Int32) * nI w = nI (40 * w) := pk_mul 40 w
theorem s_passesAllK {Y : St} {w : Nat} {Q : St → Prop} (hw : w ≤ 3) (h : ∀ Y', frm [17, 18] [15] Y Y' → (∀ t, tn t ≤ 8 → absF (flM Y) t → absF (flK Y' w) t) → (∀ q, (q < 40 * w ∨ 40 * w + 34 ≤ q) → Y'.2 15 q = Y.2 15 q) → Q Y') : wp_X7_passesAll Y (nI w) 1 Q := by
  unfold wp_X7_passesAll
  rw [keep_c]
  intro S1 e1
  refine ⟨Or.inr rfl, fun S3 e3 => ?_⟩
  have k18 : S3.1 18 = nI (40 * w) := by rw [e3, sI_n _ _ (by decide), e1, sI_s]
  have k17 : ¬ S3.1 17 = 0 := by rw [e3, sI_s]; decide
  have kA : S3.2 = Y.2 := by rw [e3, e1]; rfl
  have kI : ∀ s, s ≠ 17 → s ≠ 18 → S3.1 s = Y.1 s := fun s h1 h2 => by rw [e3, sI_n _ _ h1, e1, sI_n _ _ h2]
  generalize hc : 40 * w = c at h k18
  have c17 : ∀ (S : St) (j c i : Nat), ¬ S.1 17 = 0 → ¬ (stK S j c i).1 17 = 0 := fun S j c i q => by rw [stK_i _ _ _ _ (by decide)]; exact q
  have q1 := c17 S3 1 c 8 k17
  have q2 := c17 _ 2 (c + 8) 8 q1
  have q3 := c17 _ 3 (c + 8 + 8) 8 q2
  have q4 := c17 _ 4 (c + 8 + 8 + 8) 8 q3
  refine s_passK_1 (c := c) (by omega) k18 k17 (s_passK_2 (c := c + 8) (by omega) (stK_18 _ _ _ _) q1 (s_passK_3 (c := c + 8 + 8) (by omega) (stK_18 _ _ _ _) q2 (s_passK_4 (c := c + 8 + 8 + 8) (by omega) (stK_18 _ _ _ _) q3 ?_)))
  obtain ⟨Y4, e4⟩ : ∃ z : St, z = stK (stK (stK (stK S3 1 c 8) 2 (c + 8) 8) 3 (c + 8 + 8) 8) 4 (c + 8 + 8 + 8) 8 := ⟨_, rfl⟩
  rw [← e4] at q4 ⊢
  have k4 : Y4.1 18 = nI (c + 32) := by rw [e4, stK_18]
  have i4 : ∀ s, s ≠ 18 → Y4.1 s = S3.1 s := fun s hs => by rw [e4, stK_i _ _ _ _ hs, stK_i _ _ _ _ hs, stK_i _ _ _ _ hs, stK_i _ _ _ _ hs]
  have a4 : ∀ s, s ≠ 15 → Y4.2 s = Y.2 s := fun s hs => by rw [e4, stK_n _ _ _ _ hs, stK_n _ _ _ _ hs, stK_n _ _ _ _ hs, stK_n _ _ _ _ hs, kA]
  have f4 : ∀ q, Y4.2 15 q = if c + 24 ≤ q ∧ q < c + 32 then Y.2 4 (q - (c + 24)) else if c + 16 ≤ q ∧ q < c + 24 then Y.2 3 (q - (c + 16)) else if c + 8 ≤ q ∧ q < c + 16 then Y.2 2 (q - (c + 8)) else if c ≤ q ∧ q < c + 8 then Y.2 1 (q - c) else Y.2 15 q := by
    intro q
    rw [e4, stK_15, stK_15, stK_15, stK_15, stK_n _ _ _ _ (by decide), stK_n _ _ _ _ (by decide), stK_n _ _ _ _ (by decide), stK_n _ _ _ _ (by decide), stK_n _ _ _ _ (by decide), stK_n _ _ _ _ (by decide), kA]
  refine s_passOneK (c := c + 32) (by omega) k4 q4 (fun S15 e15 => ?_)
  have k5 : S15.1 18 = nI (c + 33) := by rw [e15, sI_n _ _ (by decide), sI_s]
  have q5 : ¬ S15.1 17 = 0 := by rw [e15, sI_n _ _ (by decide), sI_n _ _ (by decide), sA_1]; exact q4
  refine s_passOneK (c := c + 33) (by omega) k5 q5 (fun S19 e19 => ?_)
  have g1 : frm [17, 18] [15] Y S19 := by
    refine ⟨fun s hs => ?_, fun s hs => ?_⟩
    · have s17 : s ≠ 17 := fun e => hs (by simp [e])
      have s18 : s ≠ 18 := fun e => hs (by simp [e])
      have e5 : S15.1 s = Y.1 s := by
        rw [e15]
        by_cases z : s = 5
        · rw [z, sI_s, i4 5 (by decide), kI 5 (by decide) (by decide)]
        · rw [sI_n _ _ z, sI_n _ _ s18, sA_1, i4 s s18, kI s s17 s18]
      rw [e19]
      by_cases z : s = 6
      · rw [z, sI_s]; rw [z] at e5; exact e5
      · rw [sI_n _ _ z, sI_n _ _ s18, sA_1]; exact e5
    · have s15 : s ≠ 15 := fun e => hs (by simp [e])
      rw [e19, sI_2, sI_2, sA_n _ _ _ s15, e15, sI_2, sI_2, sA_n _ _ _ s15, a4 s s15]
  have g2 : ∀ q, S19.2 15 q = if q = c + 33 then Y.1 6 else if q = c + 32 then Y.1 5 else Y4.2 15 q := by
    intro q
    have e6 : S15.1 6 = Y.1 6 := by rw [e15, sI_n _ _ (by decide), sI_n _ _ (by decide), sA_1, i4 6 (by decide), kI 6 (by decide) (by decide)]
    rw [e19, sI_2, sI_2, sA_s, e15, sI_2, sI_2, sA_s]
    rw [e15] at e6
    unfold upd
    rw [e6, i4 5 (by decide), kI 5 (by decide) (by decide)]
  refine h S19 g1 (fun t ht hF => absF.eq8 ht hF ?_ ?_ ?_ ?_ ?_ ?_) (fun q hq => ?_)
  · show S19.2 15 (40 * w + 32) = Y.1 5
    rw [hc, g2, if_neg (by omega), if_pos rfl]
  · show S19.2 15 (40 * w + 33) = Y.1 6
    rw [hc, g2, if_pos rfl]
  · intro i hi
    show S19.2 15 (40 * w + 8 * (2 - 2) + i) = Y.2 1 i
    rw [hc, g2, if_neg (by omega), if_neg (by omega), f4, if_neg (by omega), if_neg (by omega), if_neg (by omega), if_pos (by omega)]
    exact congrArg _ (by omega)
  · intro i hi
    show S19.2 15 (40 * w + 8 * (3 - 2) + i) = Y.2 2 i
    rw [hc, g2, if_neg (by omega), if_neg (by omega), f4, if_neg (by omega), if_neg (by omega), if_pos (by omega)]
    exact congrArg _ (by omega)
  · intro i hi
    show S19.2 15 (40 * w + 8 * (4 - 2) + i) = Y.2 3 i
    rw [hc, g2, if_neg (by omega), if_neg (by omega), f4, if_neg (by omega), if_pos (by omega)]
    exact congrArg _ (by omega)
  · intro i hi
    show S19.2 15 (40 * w + 8 * (5 - 2) + i) = Y.2 4 i
    rw [hc, g2, if_neg (by omega), if_neg (by omega), f4, if_pos (by omega)]
    exact congrArg _ (by omega)
  · rw [g2, if_neg (by omega), if_neg (by omega), f4, if_neg (by omega), if_neg (by omega), if_neg (by omega), if_neg (by omega)]
theorem s_passesAllR {Y : St} {w : Nat} {Q : St → Prop} (hw : w ≤ 3) (h : ∀ Y', frm [5, 6, 17, 18] [1, 2, 3, 4] Y Y' → (∀ t, tn t ≤ 8 → absF (flK Y w) t → absF (flM Y') t) → Q Y') : wp_X7_passesAll Y (nI w) 0 Q := by
  unfold wp_X7_passesAll
  rw [keep_c]
  intro S1 e1
  refine ⟨Or.inl rfl, fun S3 e3 => ?_⟩
  have k18 : S3.1 18 = nI (40 * w) := by rw [e3, sI_n _ _ (by decide), e1, sI_s]
  have k17 : S3.1 17 = 0 := by rw [e3, sI_s]
  have kA : S3.2 = Y.2 := by rw [e3, e1]; rfl
  have kI : ∀ s, s ≠ 17 → s ≠ 18 → S3.1 s = Y.1 s := fun s h1 h2 => by rw [e3, sI_n _ _ h1, e1, sI_n _ _ h2]
  have c17 : ∀ (S : St) (j c i : Nat), S.1 17 = 0 → (stR S j c i).1 17 = 0 := fun S j c i q => by rw [stR_i _ _ _ _ (by decide)]; exact q
  obtain ⟨c, hc⟩ : ∃ c, c = 40 * w := ⟨_, rfl⟩
  rw [← hc] at k18
  have q1 := c17 S3 1 c 8 k17
  have q2 := c17 _ 2 (c + 8) 8 q1
  have q3 := c17 _ 3 (c + 8 + 8) 8 q2
  have q4 := c17 _ 4 (c + 8 + 8 + 8) 8 q3
  refine s_passR_1 (c := c) (by omega) k18 k17 (s_passR_2 (c := c + 8) (by omega) (stR_18 _ _ _ _) q1 (s_passR_3 (c := c + 8 + 8) (by omega) (stR_18 _ _ _ _) q2 (s_passR_4 (c := c + 8 + 8 + 8) (by omega) (stR_18 _ _ _ _) q3 ?_)))
  obtain ⟨Y4, e4⟩ : ∃ z : St, z = stR (stR (stR (stR S3 1 c 8) 2 (c + 8) 8) 3 (c + 8 + 8) 8) 4 (c + 8 + 8 + 8) 8 := ⟨_, rfl⟩
  rw [← e4] at q4 ⊢
  have k4 : Y4.1 18 = nI (c + 32) := by rw [e4, stR_18]
  have i4 : ∀ s, s ≠ 18 → Y4.1 s = S3.1 s := fun s hs => by rw [e4, stR_i _ _ _ _ hs, stR_i _ _ _ _ hs, stR_i _ _ _ _ hs, stR_i _ _ _ _ hs]
  have a4 : ∀ s, s ≠ 1 → s ≠ 2 → s ≠ 3 → s ≠ 4 → Y4.2 s = Y.2 s := fun s h1 h2 h3 h5 => by rw [e4, stR_n _ _ _ _ h5, stR_n _ _ _ _ h3, stR_n _ _ _ _ h2, stR_n _ _ _ _ h1, kA]
  have f1 : ∀ i, i < 8 → Y4.2 1 i = Y.2 15 (c + i) := fun i hi => by
    rw [e4, stR_n _ _ _ _ (by decide), stR_n _ _ _ _ (by decide), stR_n _ _ _ _ (by decide), stR_j, if_pos hi, kA]
  have f2 : ∀ i, i < 8 → Y4.2 2 i = Y.2 15 (c + 8 + i) := fun i hi => by
    rw [e4, stR_n _ _ _ _ (by decide), stR_n _ _ _ _ (by decide), stR_j, if_pos hi, stR_n _ _ _ _ (by decide), kA]
  have f3 : ∀ i, i < 8 → Y4.2 3 i = Y.2 15 (c + 8 + 8 + i) := fun i hi => by
    rw [e4, stR_n _ _ _ _ (by decide), stR_j, if_pos hi, stR_n _ _ _ _ (by decide), stR_n _ _ _ _ (by decide), kA]
  have f4 : ∀ i, i < 8 → Y4.2 4 i = Y.2 15 (c + 8 + 8 + 8 + i) := fun i hi => by
    rw [e4, stR_j, if_pos hi, stR_n _ _ _ _ (by decide), stR_n _ _ _ _ (by decide), stR_n _ _ _ _ (by decide), kA]
  refine s_passOneR (c := c + 32) (by omega) k4 q4 (fun S15 e15 => ?_)
  have k5 : S15.1 18 = nI (c + 33) := by rw [e15, sI_n _ _ (by decide), sI_s]
  have q5 : S15.1 17 = 0 := by rw [e15, sI_n _ _ (by decide), sI_n _ _ (by decide)]; exact q4
  have a5 : S15.2 = Y4.2 := by rw [e15]; rfl
  refine s_passOneR (c := c + 33) (by omega) k5 q5 (fun S19 e19 => ?_)
  have a9 : S19.2 = Y4.2 := by rw [e19, sI_2, sI_2, a5]
  have g5 : S19.1 5 = Y.2 15 (c + 32) := by
    rw [e19, sI_n _ _ (by decide), sI_n _ _ (by decide), e15, sI_s, a4 15 (by decide) (by decide) (by decide) (by decide)]
  have g6 : S19.1 6 = Y.2 15 (c + 33) := by
    rw [e19, sI_s, a5, a4 15 (by decide) (by decide) (by decide) (by decide)]
  refine h S19 ⟨fun s hs => ?_, fun s hs => ?_⟩ (fun t ht hF => absF.eq8 ht hF ?_ ?_ ?_ ?_ ?_ ?_)
  · have s5 : s ≠ 5 := fun e => hs (by simp [e])
    have s6 : s ≠ 6 := fun e => hs (by simp [e])
    have s17 : s ≠ 17 := fun e => hs (by simp [e])
    have s18 : s ≠ 18 := fun e => hs (by simp [e])
    rw [e19, sI_n _ _ s6, sI_n _ _ s18, e15, sI_n _ _ s5, sI_n _ _ s18, i4 s s18, kI s s17 s18]
  · rw [a9, a4 s (fun e => hs (by simp [e])) (fun e => hs (by simp [e])) (fun e => hs (by simp [e])) (fun e => hs (by simp [e]))]
  · show S19.1 5 = Y.2 15 (40 * w + 32)
    rw [g5, hc]
  · show S19.1 6 = Y.2 15 (40 * w + 33)
    rw [g6, hc]
  · intro i hi
    show S19.2 1 i = Y.2 15 (40 * w + 8 * (2 - 2) + i)
    rw [a9, f1 i hi, hc]; rfl
  · intro i hi
    show S19.2 2 i = Y.2 15 (40 * w + 8 * (3 - 2) + i)
    rw [a9, f2 i hi, hc]
  · intro i hi
    show S19.2 3 i = Y.2 15 (40 * w + 8 * (4 - 2) + i)
    rw [a9, f3 i hi, hc]
  · intro i hi
    show S19.2 4 i = Y.2 15 (40 * w + 8 * (5 - 2) + i)
    rw [a9, f4 i hi, hc]
