/-! the reference's ball -/
def tx7 (S : St) (tx : Nat → Nat) (L : Nat) : Prop := L ≤ 64 ∧ S.1 12 = nI L ∧ ∀ i, i < L → tx i < 256 ∧ S.2 7 i = nI (tx i)
theorem tx7.fr {S S' : St} {tx : Nat → Nat} {L : Nat} (h : tx7 S tx L) {is as : List Nat} (hf : frm is as S S') (hi : 12 ∉ is) (ha : 7 ∉ as) : tx7 S' tx L := by
  refine ⟨h.1, (hf.1 12 hi).trans h.2.1, fun i hi' => ?_⟩
  rw [hf.2 7 ha]; exact h.2.2 i hi'
theorem s7_nextT {S : St} {tx : Nat → Nat} {L q : Nat} {Q : Int32 → St → Prop} (hT : tx7 S tx L) (hq : S.1 13 = nI q) (hl : q < L) (h : Q (nI (tx q)) S) : wp_X7_next S Q := by
  have hL := hT.1
  unfold wp_X7_next
  rw [hT.2.1, hq, nI_clamp (n := q) (by omega), (hT.2.2 q hl).2]
  exact br_f (fun c => by rw [nI_leI (by omega) (by omega)] at c; omega) ⟨vp_in_nI (by omega) (by omega), h⟩
theorem s7_nextE {S : St} {tx : Nat → Nat} {L q : Nat} {Q : Int32 → St → Prop} (hT : tx7 S tx L) (hq : S.1 13 = nI q) (hq2 : q < 100) (hl : L ≤ q) (h : Q (-1) S) : wp_X7_next S Q := by
  have hL := hT.1
  unfold wp_X7_next
  rw [hT.2.1, hq]
  exact br_t (nI_le hl (by omega)) h
theorem s7_digT {S : St} {tx : Nat → Nat} {L q : Nat} {Q : Int32 → St → Prop} (hT : tx7 S tx L) (hq : S.1 13 = nI q) (hl : q < L) (h1 : 48 ≤ tx q) (h2 : tx q ≤ 57) (h : Q (nI (tx q - 48)) (sI S 13 (nI (q + 1)))) : wp_X7_digit S Q := by
  have hL := hT.1
  unfold wp_X7_digit wp_X7_isIn
  refine s7_nextT hT hq hl (br_f (fun c => by rw [show (48 : Int32) = nI 48 from rfl, nI_ltI (by omega) (by omega)] at c; omega) (br_f (fun c => by rw [show (57 : Int32) = nI 57 from rfl, nI_ltI (by omega) (by omega)] at c; omega) (bn_t (by decide) (fun S5 e5 => ?_))))
  rw [hq, nI_1] at e5
  rw [e5, sI_s, nI_pred, nI_clamp (n := q) (by omega), sI_2, (hT.2.2 q hl).2, show nI (tx q) - (48 : Int32) = nI (tx q - 48) from pk_sub (b := 48) h1]
  exact ⟨vp_in_nI (by omega) (by omega), h⟩
theorem s7_digF {S : St} {tx : Nat → Nat} {L q : Nat} {Q : Int32 → St → Prop} (hT : tx7 S tx L) (hq : S.1 13 = nI q) (hq2 : q < 100) (hw : L ≤ q ∨ tx q < 48 ∨ 57 < tx q) (h : Q (-1) S) : wp_X7_digit S Q := by
  have hL := hT.1
  unfold wp_X7_digit wp_X7_isIn
  by_cases c0 : L ≤ q
  · exact s7_nextE hT hq hq2 c0 (br_t (by decide) (bn_f rfl h))
  · have g1 := (hT.2.2 q (by omega)).1
    refine s7_nextT hT hq (by omega) ?_
    by_cases c1 : tx q < 48
    · exact br_t (by rw [show (48 : Int32) = nI 48 from rfl, nI_ltI (by omega) (by omega)]; omega) (bn_f rfl h)
    · exact br_f (fun c => by rw [show (48 : Int32) = nI 48 from rfl, nI_ltI (by omega) (by omega)] at c; omega) (br_t (by rw [show (57 : Int32) = nI 57 from rfl, nI_ltI (by omega) (by omega)]; omega) (bn_f rfl h))
/-- what one statement leaves -/
def stR7 (tx : Nat → Nat) (k p : Nat) (S S' : St) : Prop := frm [13] [8, 9, 10, 11] S S' ∧ (∀ j, j ≠ k → S'.2 8 j = S.2 8 j ∧ S'.2 9 j = S.2 9 j ∧ S'.2 10 j = S.2 10 j ∧ S'.2 11 j = S.2 11 j) ∧ S'.2 8 k = nI (tx p) ∧ S'.2 9 k = nI p ∧ S'.2 10 k = nI (d1 tx p) ∧ (tx p ≠ 108 → S'.2 11 k = nI (d2 tx p))
theorem s7_st97_ok {S : St} {tx : Nat → Nat} {L k q : Nat} {v : Int32} {Q : Int32 → St → Prop} (hT : tx7 S tx L) (hk : k < 32) (hq : S.1 13 = nI q) (hl : q < L) (h1 : tx q = 59) (hv : ¬ v < 0) (h : Q 1 (sI (sA S 11 k v) 13 (nI (q + 1)))) : wp_X7_statement_97 Q S (nI k) (nI k) v := by
  unfold wp_X7_statement_97
  rw [nI_clamp (n := k) (by omega)]
  refine ⟨vp_in_nI hk (by omega), fun S18 e18 => ⟨vp_in_nI hk (by omega), ?_⟩⟩
  have e : S18.2 11 k = v := by rw [e18, sA_s, upd_s]
  have hq' : S18.1 13 = nI q := by rw [e18]; exact hq
  rw [e]
  refine br_f hv (s7_nextT (tx := tx) (L := L) (q := q) (hT.fr (is := []) (as := [11]) (by rw [e18]; exact frm.sA 11 _ _) (by decide) (by decide)) hq' hl (br_t (by rw [h1]; rfl) (fun S24 e24 => ?_)))
  rw [e24, hq', nI_1, e18]
  exact h
theorem s7_st97_bad {S : St} {tx : Nat → Nat} {L k q : Nat} {v : Int32} {Q : Int32 → St → Prop} (hT : tx7 S tx L) (hk : k < 32) (hq : S.1 13 = nI q) (hq2 : q < 100) (hw : v < 0 ∨ L ≤ q ∨ tx q ≠ 59) (h : Q 0 (sA S 11 k v)) : wp_X7_statement_97 Q S (nI k) (nI k) v := by
  have hL := hT.1
  unfold wp_X7_statement_97
  rw [nI_clamp (n := k) (by omega)]
  refine ⟨vp_in_nI hk (by omega), fun S18 e18 => ⟨vp_in_nI hk (by omega), ?_⟩⟩
  have e : S18.2 11 k = v := by rw [e18, sA_s, upd_s]
  have hq' : S18.1 13 = nI q := by rw [e18]; exact hq
  have hT' : tx7 S18 tx L := hT.fr (is := []) (as := [11]) (by rw [e18]; exact frm.sA 11 _ _) (by decide) (by decide)
  rw [e]
  rw [← e18] at h
  by_cases c0 : v < 0
  · exact br_t c0 h
  · refine br_f c0 ?_
    by_cases c1 : L ≤ q
    · exact s7_nextE hT' hq' hq2 c1 (br_f (by decide) h)
    · have g1 := (hT.2.2 q (by omega)).1
      have : tx q ≠ 59 := by
        rcases hw with w | w | w
        · exact absurd w c0
        · exact absurd w c1
        · exact w
      exact s7_nextT hT' hq' (by omega) (br_f (fun c => this ((nI_inj8 (b := 59) (by omega) (by omega)).mp c)) h)
/-- the state behind the first three cells -/
def A8 (S : St) (k p c : Nat) : St := sI (sA (sA S 8 k (nI c)) 9 k (nI p)) 13 (nI (p + 1))
theorem A8_fr (S : St) (k p c : Nat) : frm [13] [8, 9, 10, 11] S (A8 S k p c) :=
  (((frm.sA 8 _ _).mono (fun s z => absurd z List.not_mem_nil) (fun s z => by simp at z ⊢; omega)).tr ((frm.sA 9 _ _).mono (fun s z => absurd z List.not_mem_nil) (fun s z => by simp at z ⊢; omega))).tr ((frm.sI 13 _).mono (fun s z => z) (fun s z => absurd z List.not_mem_nil))
theorem s7_st30 {S : St} {tx : Nat → Nat} {L k p : Nat} {Q : Int32 → St → Prop} (hk : k < 32) (hp : S.1 13 = nI p)
    (h : wp_X7_digit (A8 S k p (tx p)) (fun r_10 u_11 => vp_in (nI k) 32 ∧ (∀ S_12, S_12 = (sA u_11 10 k r_10) → (vp_in (nI k) 32 ∧ (((0 ≤ (S_12.2 10 k)) → (((¬ nI (tx p) = (108 : Int32)) → (wp_X7_digit S_12 (fun r_16 u_17 => wp_X7_statement_97 Q u_17 (nI k) (nI k) r_16))) ∧ ((nI (tx p) = (108 : Int32)) → (wp_X7_statement_97 Q S_12 (nI k) (nI k) (0 : Int32))))) ∧ ((¬ 0 ≤ (S_12.2 10 k)) → (Q (0 : Int32) S_12))))))) : wp_X7_statement_30 Q S (nI k) (nI (tx p)) := by
  have hv : vp_in (nI k) 32 := vp_in_nI hk (by omega)
  unfold wp_X7_statement_30
  rw [nI_clamp (n := k) (by omega)]
  refine ⟨hv, fun S4 e4 => ⟨hv, fun S6 e6 S8 e8 => ?_⟩⟩
  have e : S8 = A8 S k p (tx p) := by
    have h4 : S4.1 13 = nI p := by rw [e4]; exact hp
    have h6 : S6.1 13 = nI p := by rw [e6]; exact h4
    rw [e8, h6, nI_1, e6, h4, e4]
    rfl
  rw [e]
  exact h
theorem s7_stmt_ok {S : St} {tx : Nat → Nat} {L k p : Nat} {Q : Int32 → St → Prop} (hT : tx7 S tx L) (hk : k < 32) (hk2 : S.1 14 = nI k) (hp : S.1 13 = nI p) (hs : okS tx L p) (h : ∀ S', stR7 tx k p S S' → S'.1 13 = nI (nxp tx p) → Q 1 S') : wp_X7_statement S Q := by
  have hL := hT.1
  have hc := okS_c hs
  have g1 := (hT.2.2 p (by omega)).1
  have ee : ∀ c : Nat, c < 256 → (nI (tx p) = nI c ↔ tx p = c) := fun c hc => nI_inj8 (by omega) (by omega)
  have f8 := A8_fr S k p (tx p)
  have t8 : tx7 (A8 S k p (tx p)) tx L := hT.fr f8 (by decide) (by decide)
  have q8 : (A8 S k p (tx p)).1 13 = nI (p + 1) := sI_s _ _ _
  have hd := okS_d hs
  have h30 : wp_X7_statement_30 Q S (nI k) (nI (tx p)) := by
    refine s7_st30 (L := L) hk hp ?_
    have hb : 48 ≤ tx (p + 1) ∧ tx (p + 1) ≤ 57 := by rcases hs with ⟨_, _, _, _, _, _, _⟩ | ⟨_, _, _, _, _⟩ <;> omega
    refine s7_digT t8 q8 (by omega) hb.1 hb.2 ⟨vp_in_nI hk (by omega), fun S12 e12 => ⟨vp_in_nI hk (by omega), ?_⟩⟩
    have v12 : S12.2 10 k = nI (d1 tx p) := by rw [e12, sA_s, upd_s]; rfl
    have q12 : S12.1 13 = nI (p + 2) := by rw [e12, sA_1, sI_s]
    have f12 : frm [13] [8, 9, 10, 11] (A8 S k p (tx p)) S12 := by
      rw [e12]
      exact ((frm.sI 13 _).mono (fun s z => z) (fun s z => absurd z List.not_mem_nil)).tr ((frm.sA 10 _ _).mono (fun s z => absurd z List.not_mem_nil) (fun s z => by simp at z ⊢; omega))
    have t12 : tx7 S12 tx L := t8.fr f12 (by decide) (by decide)
    rw [v12]
    refine br_t (nI_pos' (by omega)) ?_
    rcases hs with ⟨h1, h2, h3, h4, h5, h6, h7⟩ | ⟨h1, h2, h3, h4, h5⟩
    · have hn : ndg (tx p) = 2 := if_neg (by omega)
      refine bn_t (fun z => by have := (ee 108 (by omega)).mp z; omega) (s7_digT t12 q12 (by omega) h4 h5 (s7_st97_ok (tx := tx) (L := L) (q := p + 3) (t12.fr (is := [13]) (as := []) (frm.sI 13 _) (by decide) (by decide)) hk (sI_s _ _ _) (by omega) h6 (nI_pos (by omega)) (h _ ⟨?_, fun j hj => ?_, ?_, ?_, ?_, fun _ => ?_⟩ ?_)))
      · refine (f8.tr f12).tr ((((frm.sI 13 _).mono (fun s z => z) (fun s z => absurd z List.not_mem_nil)).tr ((frm.sA 11 _ _).mono (fun s z => absurd z List.not_mem_nil) (fun s z => by simp at z ⊢; omega))).tr ((frm.sI 13 _).mono (fun s z => z) (fun s z => absurd z List.not_mem_nil)))
      · rw [e12]; simp [A8, sI_2, sA_s, sA_n, upd_n, hj]
      · rw [e12]; simp [A8, sI_2, sA_s, sA_n, upd_s]
      · rw [e12]; simp [A8, sI_2, sA_s, sA_n, upd_s]
      · rw [e12]; simp [A8, sI_2, sA_s, sA_n, upd_s, d1]
      · rw [e12]; simp [A8, sI_2, sA_s, sA_n, upd_s, d2]
      · rw [sI_s]; unfold nxp; rw [hn]
    · have hn : ndg (tx p) = 1 := if_pos h1
      refine bn_f ((ee 108 (by omega)).mpr h1) (s7_st97_ok (tx := tx) (L := L) (q := p + 2) t12 hk q12 (by omega) h4 (by decide) (h _ ⟨?_, fun j hj => ?_, ?_, ?_, ?_, fun z => absurd h1 z⟩ ?_))
      · refine (f8.tr f12).tr (((frm.sA 11 _ _).mono (fun s z => absurd z List.not_mem_nil) (fun s z => by simp at z ⊢; omega)).tr ((frm.sI 13 _).mono (fun s z => z) (fun s z => absurd z List.not_mem_nil)))
      · rw [e12]; simp [A8, sI_2, sA_s, sA_n, upd_n, hj]
      · rw [e12]; simp [A8, sI_2, sA_s, sA_n, upd_s]
      · rw [e12]; simp [A8, sI_2, sA_s, sA_n, upd_s]
      · rw [e12]; simp [A8, sI_2, sA_s, sA_n, upd_s, d1]
      · rw [sI_s]; unfold nxp; rw [hn]
  unfold wp_X7_statement
  rw [hk2]
  refine s7_nextT hT hp (by omega) ?_
  by_cases c1 : tx p = 100
  · exact br_t ((ee 100 (by omega)).mpr c1) h30
  · refine br_f (fun z => c1 ((ee 100 (by omega)).mp z)) ?_
    by_cases c2 : tx p = 112
    · exact br_t ((ee 112 (by omega)).mpr c2) h30
    · refine br_f (fun z => c2 ((ee 112 (by omega)).mp z)) (br_t ((ee 108 (by omega)).mpr (by omega)) h30)
theorem s7_stmt_bad {S : St} {tx : Nat → Nat} {L k p w : Nat} {Q : Int32 → St → Prop} (hT : tx7 S tx L) (hk : k < 32) (hk2 : S.1 14 = nI k) (hp : S.1 13 = nI p) (hp2 : p < 90) (hs : WR tx L p w) (h : ∀ S', frm [13] [8, 9, 10, 11] S S' → S'.1 13 = nI w → Q 0 S') : wp_X7_statement S Q := by
  have hL := hT.1
  unfold wp_X7_statement
  rw [hk2]
  by_cases c0 : L ≤ p
  · have e : w = p := by
      rcases hs with ⟨g1, g2⟩ | ⟨g1, g2, g3, g4⟩ | ⟨g1, g2, g3, g4, g5, g6⟩ | ⟨g1, g2, g3, g4, g5, g6⟩ | ⟨g1, g2, g3, g4, g5, g6, g7, g8⟩ <;> omega
    rw [e] at h
    exact s7_nextE hT hp (by omega) c0 (br_f (by decide) (br_f (by decide) (br_f (by decide) (h S frm.rf hp))))
  · have g1 := (hT.2.2 p (by omega)).1
    have ee : ∀ c : Nat, c < 256 → (nI (tx p) = nI c ↔ tx p = c) := fun c hc => nI_inj8 (by omega) (by omega)
    refine s7_nextT hT hp (by omega) ?_
    by_cases cz : tx p ≠ 100 ∧ tx p ≠ 112 ∧ tx p ≠ 108
    · have e : w = p := by
        rcases hs with ⟨g1, g2⟩ | ⟨g1, g2, g3, g4⟩ | ⟨g1, g2, g3, g4, g5, g6⟩ | ⟨g1, g2, g3, g4, g5, g6⟩ | ⟨g1, g2, g3, g4, g5, g6, g7, g8⟩ <;> omega
      rw [e] at h
      exact br_f (fun z => cz.1 ((ee 100 (by omega)).mp z)) (br_f (fun z => cz.2.1 ((ee 112 (by omega)).mp z)) (br_f (fun z => cz.2.2 ((ee 108 (by omega)).mp z)) (h S frm.rf hp)))
    · have f8 := A8_fr S k p (tx p)
      have t8 : tx7 (A8 S k p (tx p)) tx L := hT.fr f8 (by decide) (by decide)
      have q8 : (A8 S k p (tx p)).1 13 = nI (p + 1) := sI_s _ _ _
      have h30 : wp_X7_statement_30 Q S (nI k) (nI (tx p)) := by
        refine s7_st30 (L := L) hk hp ?_
        have hv : vp_in (nI k) 32 := vp_in_nI hk (by omega)
        by_cases c1 : L ≤ p + 1 ∨ tx (p + 1) < 48 ∨ 57 < tx (p + 1)
        · have e : w = p + 1 := by
            rcases hs with ⟨g1, g2⟩ | ⟨g1, g2, g3, g4⟩ | ⟨g1, g2, g3, g4, g5, g6⟩ | ⟨g1, g2, g3, g4, g5, g6⟩ | ⟨g1, g2, g3, g4, g5, g6, g7, g8⟩ <;> omega
          rw [e] at h
          refine s7_digF t8 q8 (by omega) c1 ⟨hv, fun S12 e12 => ⟨hv, ?_⟩⟩
          have v12 : S12.2 10 k = -1 := by rw [e12, sA_s, upd_s]
          rw [v12]
          refine br_f (by decide) (h S12 ?_ (by rw [e12]; exact q8))
          rw [e12]
          exact f8.tr ((frm.sA 10 _ _).mono (fun s z => absurd z List.not_mem_nil) (fun s z => by simp at z ⊢; omega))
        · refine s7_digT t8 q8 (by omega) (by omega) (by omega) ⟨hv, fun S12 e12 => ⟨hv, ?_⟩⟩
          have v12 : S12.2 10 k = nI (d1 tx p) := by rw [e12, sA_s, upd_s]; rfl
          have q12 : S12.1 13 = nI (p + 2) := by rw [e12, sA_1, sI_s]
          have f12 : frm [13] [8, 9, 10, 11] (A8 S k p (tx p)) S12 := by
            rw [e12]
            exact ((frm.sI 13 _).mono (fun s z => z) (fun s z => absurd z List.not_mem_nil)).tr ((frm.sA 10 _ _).mono (fun s z => absurd z List.not_mem_nil) (fun s z => by simp at z ⊢; omega))
          have t12 : tx7 S12 tx L := t8.fr f12 (by decide) (by decide)
          have f11 : ∀ v, frm [13] [8, 9, 10, 11] S12 (sA S12 11 k v) := fun v => (frm.sA 11 _ _).mono (fun s z => absurd z List.not_mem_nil) (fun s z => by simp at z ⊢; omega)
          rw [v12]
          refine br_t (nI_pos' (by unfold d1; omega)) ?_
          by_cases c2 : tx p = 108
          · have e : w = p + 2 ∧ (L ≤ p + 2 ∨ tx (p + 2) ≠ 59) := by
              rcases hs with ⟨g1, g2⟩ | ⟨g1, g2, g3, g4⟩ | ⟨g1, g2, g3, g4, g5, g6⟩ | ⟨g1, g2, g3, g4, g5, g6⟩ | ⟨g1, g2, g3, g4, g5, g6, g7, g8⟩ <;> omega
            rw [e.1] at h
            exact bn_f ((ee 108 (by omega)).mpr c2) (s7_st97_bad (tx := tx) (L := L) t12 hk q12 (by omega) (Or.inr e.2) (h _ ((f8.tr f12).tr (f11 _)) q12))
          · refine bn_t (fun z => c2 ((ee 108 (by omega)).mp z)) ?_
            by_cases c3 : L ≤ p + 2 ∨ tx (p + 2) < 48 ∨ 57 < tx (p + 2)
            · have e : w = p + 2 := by
                rcases hs with ⟨g1, g2⟩ | ⟨g1, g2, g3, g4⟩ | ⟨g1, g2, g3, g4, g5, g6⟩ | ⟨g1, g2, g3, g4, g5, g6⟩ | ⟨g1, g2, g3, g4, g5, g6, g7, g8⟩ <;> omega
              rw [e] at h
              exact s7_digF t12 q12 (by omega) c3 (s7_st97_bad (tx := tx) (L := L) t12 hk q12 (by omega) (Or.inl (by decide)) (h _ ((f8.tr f12).tr (f11 _)) q12))
            · have e : w = p + 3 ∧ (L ≤ p + 3 ∨ tx (p + 3) ≠ 59) := by
                rcases hs with ⟨g1, g2⟩ | ⟨g1, g2, g3, g4⟩ | ⟨g1, g2, g3, g4, g5, g6⟩ | ⟨g1, g2, g3, g4, g5, g6⟩ | ⟨g1, g2, g3, g4, g5, g6, g7, g8⟩ <;> omega
              rw [e.1] at h
              refine s7_digT t12 q12 (by omega) (by omega) (by omega) (s7_st97_bad (tx := tx) (L := L) (q := p + 3) (t12.fr (is := [13]) (as := []) (frm.sI 13 _) (by decide) (by decide)) hk (sI_s _ _ _) (by omega) (Or.inr e.2) (h _ ?_ (by rw [sA_1]; exact sI_s _ _ _)))
              exact (f8.tr f12).tr (((frm.sI 13 _).mono (fun s z => z) (fun s z => absurd z List.not_mem_nil)).tr ((frm.sA 11 _ _).mono (fun s z => absurd z List.not_mem_nil) (fun s z => by simp at z ⊢; omega)))
      by_cases c1 : tx p = 100
      · exact br_t ((ee 100 (by omega)).mpr c1) h30
      · refine br_f (fun z => c1 ((ee 100 (by omega)).mp z)) ?_
        by_cases c2 : tx p = 112
        · exact br_t ((ee 112 (by omega)).mpr c2) h30
        · refine br_f (fun z => c2 ((ee 112 (by omega)).mp z)) (br_t ((ee 108 (by omega)).mpr (by omega)) h30)
/-! the first pass -/
def recs (tx : Nat → Nat) (k : Nat) (S : St) : Prop := ∀ j, j < k → S.2 8 j = nI (tx (plc tx j)) ∧ S.2 9 j = nI (plc tx j) ∧ S.2 10 j = nI (d1 tx (plc tx j)) ∧ (tx (plc tx j) ≠ 108 → S.2 11 j = nI (d2 tx (plc tx j)))
def fp7 (Y : St) (tx : Nat → Nat) (k : Nat) (S : St) : Prop := frm [13, 14] [8, 9, 10, 11] Y S ∧ S.1 13 = nI (plc tx k) ∧ S.1 14 = nI k ∧ recs tx k S
theorem recs_s {tx : Nat → Nat} {k : Nat} {S S' : St} (h : recs tx k S) (h' : stR7 tx k (plc tx k) S S') : recs tx (k + 1) S' := by
  intro j hj
  obtain ⟨_, g2, g3, g4, g5, g6⟩ := h'
  by_cases c : j = k
  · subst c; exact ⟨g3, g4, g5, g6⟩
  · obtain ⟨q1, q2, q3, q4⟩ := g2 j c
    rw [q1, q2, q3, q4]
    exact h j (by omega)
theorem b12_step {Y S : St} {tx : Nat → Nat} {L k n : Nat} {Q : Int32 → St → Prop} (hT : tx7 Y tx L) (hS : fp7 Y tx k S) (h1 : ∀ j, j < k + 1 → okS tx L (plc tx j)) (h : ∀ S', fp7 Y tx (k + 1) S' → wp_X7_ball_12 Q n S' 1) : wp_X7_ball_12 Q (n + 1) S 1 := by
  have hL := hT.1
  obtain ⟨g1, g2, g3, g4⟩ := hS
  have hp := plc_ok (k := k) (fun j hj => h1 j (by omega))
  have hs := h1 k (by omega)
  have hc := okS_c hs
  have hT' : tx7 S tx L := hT.fr g1 (by decide) (by decide)
  have k34 : wp_X7_ball_34 (fun s0 v0 => wp_X7_ball_12 Q n s0 v0) Q S := by
    unfold wp_X7_ball_34
    refine s7_stmt_ok hT' (by omega) g3 g2 hs (fun S' r1 r2 => br_f (by decide) (fun S24 e24 => h S24 ?_))
    have e14 : S'.1 14 = nI k := (r1.1.1 14 (by decide)).trans g3
    rw [e14, nI_1] at e24
    refine ⟨?_, ?_, ?_, ?_⟩
    · rw [e24]
      exact (g1.tr (r1.1.mono (fun s z => by simp at z ⊢; omega) (fun s z => z))).tr ((frm.sI 14 _).mono (fun s z => by simp at z ⊢; omega) (fun s z => absurd z List.not_mem_nil))
    · rw [e24, sI_n _ _ (by decide)]; exact r2
    · rw [e24, sI_s]
    · rw [e24]; exact (recs_s g4 r1 : recs tx (k + 1) S')
  unfold wp_X7_ball_12
  rw [hT'.2.1, g2]
  exact br_f (by decide) (br_t (by rw [nI_ltI (by omega) (by omega)]; omega) k34)
theorem b12_run {Y : St} {tx : Nat → Nat} {L k0 n : Nat} {Q : Int32 → St → Prop} (hT : tx7 Y tx L) (h1 : ∀ j, j < k0 → okS tx L (plc tx j)) (h : ∀ S, fp7 Y tx k0 S → wp_X7_ball_12 Q n S 1) : ∀ (m k : Nat) (S : St), k + m = k0 → fp7 Y tx k S → wp_X7_ball_12 Q (m + n) S 1
  | 0, k, S, hk, hS => by
    have : k = k0 := by omega
    subst this
    rw [Nat.zero_add]; exact h S hS
  | m + 1, k, S, hk, hS => by
    rw [show m + 1 + n = m + n + 1 by omega]
    exact b12_step hT hS (fun j hj => h1 j (by omega)) (fun S' hS' => b12_run hT h1 h m (k + 1) S' (by omega) hS')
theorem b12_bad {Y S : St} {tx : Nat → Nat} {L k w n : Nat} {Q : Int32 → St → Prop} (hT : tx7 Y tx L) (hS : fp7 Y tx k S) (hb : badL tx L k w) (h : ∀ S', frm [12, 13, 14] [8, 9, 10, 11] Y S' → S'.1 12 = 0 → Q (-1000 - nI w) S') : wp_X7_ball_12 Q (n + 2) S 1 := by
  have hL := hT.1
  obtain ⟨g1, g2, g3, g4⟩ := hS
  obtain ⟨b1, b2, b3⟩ := hb
  have hp := plc_ok b1
  have hT' : tx7 S tx L := hT.fr g1 (by decide) (by decide)
  have k34 : wp_X7_ball_34 (fun s0 v0 => wp_X7_ball_12 Q (n + 1) s0 v0) Q S := by
    unfold wp_X7_ball_34
    refine s7_stmt_bad hT' (by omega) g3 g2 (by omega) b3 (fun S' r1 r2 => br_t rfl (fun S22 e22 => ?_))
    have f22 : frm [12, 13, 14] [8, 9, 10, 11] Y S22 := by
      rw [e22]
      exact ((g1.tr (r1.mono (fun s z => by simp at z ⊢; omega) (fun s z => z))).tr ((frm.sI 14 _).mono (fun s z => by simp at z ⊢; omega) (fun s z => absurd z List.not_mem_nil))).mono (fun s z => by simp at z ⊢; omega) (fun s z => z)
    have q22 : S22.1 13 = nI w := by rw [e22, sI_n _ _ (by decide)]; exact r2
    unfold wp_X7_ball_12
    refine br_t rfl ?_
    unfold wp_X7_ball_60
    intro S6 e6
    refine bn_f rfl ?_
    rw [e6, sI_n _ _ (by decide), q22]
    exact h _ (f22.tr ((frm.sI 12 _).mono (fun s z => by simp at z ⊢; omega) (fun s z => absurd z List.not_mem_nil))) (sI_s _ _ _)
  unfold wp_X7_ball_12
  rw [hT'.2.1, g2, g3]
  refine br_f (by decide) ?_
  by_cases c : plc tx k < L
  · exact br_t (by rw [nI_ltI (by omega) (by omega)]; exact c) k34
  · have hk0 : k = 0 := by omega
    exact br_f (fun z => c ((nI_ltI (by omega) (by omega)).mp z)) (bn_f (by rw [hk0]; rfl) k34)
theorem b12_good {Y S : St} {tx : Nat → Nat} {L K n : Nat} {Q : Int32 → St → Prop} (hT : tx7 Y tx L) (hS : fp7 Y tx K S) (hg : goodL tx L K) (h : ∀ S6, frm [12, 13, 14] [8, 9, 10, 11] Y S6 → S6.1 12 = 0 → S6.1 14 = nI K → recs tx K S6 → wp_X7_passesAll S6 (1 : Int32) (1 : Int32) (fun u_10 => ∃ i, wp_X7_ball_86 Q i u_10 (0 : Int32))) : wp_X7_ball_12 Q (n + 1) S 1 := by
  have hL := hT.1
  obtain ⟨g1, g2, g3, g4⟩ := hS
  obtain ⟨b1, b2, b3⟩ := hg
  have hp := plc_ok b2
  have hT' : tx7 S tx L := hT.fr g1 (by decide) (by decide)
  unfold wp_X7_ball_12
  rw [hT'.2.1, g2, g3, b3]
  refine br_f (by decide) (br_f (fun z => by rw [nI_ltI (by omega) (by omega)] at z; omega) (bn_t (nI_ne0 (by omega) (by omega)) ?_))
  unfold wp_X7_ball_60
  intro S6 e6
  refine bn_t (by decide) (h S6 ?_ ?_ ?_ ?_)
  · rw [e6]
    exact (g1.mono (fun s z => by simp at z ⊢; omega) (fun s z => z)).tr ((frm.sI 12 _).mono (fun s z => by simp at z ⊢; omega) (fun s z => absurd z List.not_mem_nil))
  · rw [e6, sI_s]
  · rw [e6, sI_n _ _ (by decide)]; exact g3
  · rw [e6]; exact g4
/-! the second pass -/
theorem s7_comes {S : St} {tx : Nat → Nat} {t : TV} {L K k : Nat} {Q : Int32 → St → Prop} (hF : absF (flM S) t) (ht : okT t) (hk : k < K) (hk2 : k < 32) (hr : recs tx K S) (hs : okS tx L (plc tx k)) (hx : tx (plc tx k) < 256) (h1 : okX tx t (plc tx k) → ∀ S', absF (flM S') (nxT tx t (plc tx k)) → frm [5, 6] [1, 2, 3, 4] S S' → Q 1 S') (h0 : ¬ okX tx t (plc tx k) → ∀ S', frm [5, 6] [1, 2, 3, 4] S S' → Q 0 S') : wp_X7_comes S (nI k) Q := by
  have hn := ht.1
  obtain ⟨r1, r2, r3, r4⟩ := hr k hk
  have hc := okS_c hs
  have hd := okS_d hs
  generalize plc tx k = p at *
  have hv : vp_in (nI k) 32 := vp_in_nI hk2 (by omega)
  have ee : ∀ c : Nat, c < 256 → (nI (tx p) = nI c ↔ tx p = c) := fun c hc => nI_inj8 (by omega) (by omega)
  unfold wp_X7_comes
  rw [nI_clamp (n := k) (by omega), r1, r3]
  refine ⟨hv, ?_⟩
  by_cases c1 : tx p = 108
  · refine bn_f ((ee 108 (by omega)).mpr c1) ⟨hv, fun S20 e20 => ⟨hv, ?_⟩⟩
    have v20 : S20.2 10 k = nI (d1 tx p) := by rw [e20, sI_2]; exact r3
    have f20 : frm [5, 6] [1, 2, 3, 4] S S20 := by rw [e20]; exact (frm.sI 6 _).mono (fun s z => by simp at z ⊢; omega) (fun s z => absurd z List.not_mem_nil)
    rw [v20]
    by_cases c2 : d1 tx p ≤ 2
    · refine br_f (fun c => by rw [show (3 : Int32) = nI 3 from rfl, nI_leI (by omega) (by omega)] at c; omega) (h1 ⟨fun w => by omega, fun w => by omega, fun _ => c2⟩ S20 ?_ f20)
      unfold nxT; rw [if_neg (by omega), if_neg (by omega), e20]
      exact ⟨hF.1, by show (sI S 6 (nI (d1 tx p))).1 6 = _; rw [sI_s]; rfl, hF.2.2.1, hF.2.2.2.1, hF.2.2.2.2.1, hF.2.2.2.2.2⟩
    · exact br_t (by rw [show (3 : Int32) = nI 3 from rfl, nI_leI (by omega) (by omega)]; omega) (h0 (fun w => c2 (w.2.2 c1)) S20 f20)
  · have v11 := r4 c1
    have hd2 := hd.2 c1
    refine bn_t (fun z => c1 ((ee 108 (by omega)).mp z)) ⟨hv, ?_⟩
    by_cases c2 : tx p = 112
    · refine bn_f ((ee 112 (by omega)).mpr c2) ⟨hv, hv, ?_⟩
      rw [v11]
      by_cases c3 : d1 tx p < tn t ∧ d2 tx p < tn t ∧ d1 tx p ≠ d2 tx p
      · refine s7_areTwoN hF ht c3.1 c3.2.1 c3.2.2 (bn_t (by decide) ⟨hv, hv, ?_⟩)
        rw [r3, v11]
        refine s7_joins hF ht c3.1 c3.2.1 c3.2.2 (fun S' g1 g2 => h1 ⟨fun w => by omega, fun _ => c3, fun w => by omega⟩ S' ?_ (g2.mono (fun s z => absurd z List.not_mem_nil) (fun s z => by simp at z ⊢; omega)))
        unfold nxT; rw [if_neg (by omega), if_pos c2]; exact g1
      · refine s7_areTwo hF ht (fun a b ha hb hab ea eb => ?_) (fun _ => bn_f rfl (h0 (fun w => c3 (w.2.1 c2)) S frm.rf))
        rw [nI_inj8 (by omega) (by omega)] at ea eb
        subst ea; subst eb
        exact absurd ⟨ha, hb, hab⟩ c3
    · have c100 : tx p = 100 := by omega
      refine bn_t (fun z => c2 ((ee 112 (by omega)).mp z)) ⟨hv, ?_⟩
      have e5 : S.1 5 = nI (tn t) := hF.1
      by_cases c3 : 5 < d1 tx p
      · exact br_t (by rw [show (5 : Int32) = nI 5 from rfl, nI_ltI (by omega) (by omega)]; exact c3) (h0 (fun w => by have := (w.1 c100).2; omega) S frm.rf)
      · refine br_f (fun c => by rw [show (5 : Int32) = nI 5 from rfl, nI_ltI (by omega) (by omega)] at c; omega) ?_
        rw [e5]
        by_cases c4 : tn t = 8
        · exact bn_f (by rw [c4]; rfl) (h0 (fun w => by have := (w.1 c100).1; omega) S frm.rf)
        · have hvn : vp_in (nI (tn t)) 8 := vp_in_nI (by omega) (by omega)
          refine bn_t (fun z => c4 ((nI_inj8 (b := 8) (by omega) (by omega)).mp z)) ⟨hv, hvn, fun S5 f5 => ⟨hv, ?_⟩⟩
          rw [nI_clamp (n := tn t) (by omega)] at f5
          have k5 : S5.1 5 = nI (tn t) := by rw [f5]; exact e5
          have w11 : S5.2 11 k = nI (d2 tx p) := by rw [f5, sA_n _ _ _ (by decide)]; exact v11
          rw [k5, w11, nI_clamp (n := tn t) (by omega)]
          refine ⟨hvn, fun S7 f7 => ?_⟩
          have k7 : S7.1 5 = nI (tn t) := by rw [f7]; exact k5
          rw [k7, nI_clamp (n := tn t) (by omega)]
          refine ⟨hvn, fun S9 f9 => ?_⟩
          have k9 : S9.1 5 = nI (tn t) := by rw [f9]; exact k7
          rw [k9, nI_clamp (n := tn t) (by omega)]
          refine ⟨hvn, fun S11 f11 S13 f13 => h1 ⟨fun _ => ⟨by omega, by omega⟩, fun w => by omega, fun w => by omega⟩ S13 ?_ ?_⟩
          · have k11 : S11.1 5 = nI (tn t) := by rw [f11]; exact k9
            unfold nxT; rw [if_pos c100]
            refine hF.adm ht ?_ ?_ ?_ ?_ ?_ ?_
            · show S13.1 5 = _
              rw [f13, sI_s, k11, nI_1]
            · show S13.1 6 = S.1 6
              rw [f13, sI_n _ _ (by decide), f11, f9, f7, f5]; rfl
            · show S13.2 1 = upd (S.2 1) (tn t) _
              rw [f13, sI_2, f11, sA_n _ _ _ (by decide), f9, sA_n _ _ _ (by decide), f7, sA_n _ _ _ (by decide), f5, sA_s]
            · show S13.2 2 = upd (S.2 2) (tn t) _
              rw [f13, sI_2, f11, sA_n _ _ _ (by decide), f9, sA_n _ _ _ (by decide), f7, sA_s, f5, sA_n _ _ _ (by decide)]
            · show S13.2 3 = upd (S.2 3) (tn t) _
              rw [f13, sI_2, f11, sA_n _ _ _ (by decide), f9, sA_s, f7, sA_n _ _ _ (by decide), f5, sA_n _ _ _ (by decide)]
            · show S13.2 4 = upd (S.2 4) (tn t) _
              rw [f13, sI_2, f11, sA_s, f9, sA_n _ _ _ (by decide), f7, sA_n _ _ _ (by decide), f5, sA_n _ _ _ (by decide)]
          · rw [f13, f11, f9, f7, f5]
            have hA : ∀ (Z : St) (q i : Nat) (v : Int32), q = 1 ∨ q = 2 ∨ q = 3 ∨ q = 4 → frm [5, 6] [1, 2, 3, 4] Z (sA Z q i v) := fun Z q i v hq => (frm.sA q _ _).mono (fun s z => absurd z List.not_mem_nil) (fun s z => by simp at z ⊢; omega)
            exact ((((hA _ 1 _ _ (by decide)).tr (hA _ 2 _ _ (by decide))).tr (hA _ 3 _ _ (by decide))).tr (hA _ 4 _ _ (by decide))).tr ((frm.sI 5 _).mono (fun s z => by simp at z ⊢; omega) (fun s z => absurd z List.not_mem_nil))
theorem recs.fr {tx : Nat → Nat} {K : Nat} {S S' : St} {is as : List Nat} (h : recs tx K S) (hf : frm is as S S') (ha : 8 ∉ as ∧ 9 ∉ as ∧ 10 ∉ as ∧ 11 ∉ as) : recs tx K S' := by
  intro j hj
  rw [hf.2 8 ha.1, hf.2 9 ha.2.1, hf.2 10 ha.2.2.1, hf.2 11 ha.2.2.2]
  exact h j hj
theorem b86_run {Y1 : St} {tx : Nat → Nat} {t0 : TV} {L K k0 n : Nat} {Q : Int32 → St → Prop} (ht : okT t0) (hK : K ≤ 21) (hx : ∀ i, i < L → tx i < 256) (hr : recs tx K Y1) (h14 : Y1.1 14 = nI K) (hk0 : k0 ≤ K) (hg : ∀ j, j < K → okS tx L (plc tx j)) (h2 : ∀ j, j < k0 → okX tx (tvs tx t0 j) (plc tx j)) (h : ∀ S, absF (flM S) (tvs tx t0 k0) → frm [5, 6] [1, 2, 3, 4] Y1 S → wp_X7_ball_86 Q n S (nI k0)) :
    ∀ (m k : Nat) (S : St), k + m = k0 → absF (flM S) (tvs tx t0 k) → frm [5, 6] [1, 2, 3, 4] Y1 S → wp_X7_ball_86 Q (m + n) S (nI k)
  | 0, k, S, hk, hF, hS => by
    have : k = k0 := by omega
    subst this
    rw [Nat.zero_add]; exact h S hF hS
  | m + 1, k, S, hk, hF, hS => by
    rw [show m + 1 + n = m + n + 1 by omega]
    unfold wp_X7_ball_86
    have hs := hg k (by omega)
    have hc := okS_c hs
    rw [hS.1 14 (by decide), h14, nI_1 k]
    refine br_f (fun c => by rw [nI_leI (by omega) (by omega)] at c; omega) (s7_comes (L := L) (K := K) hF (okT_tvs ht (fun j hj => hg j (by omega)) (fun j hj => h2 j (by omega))) (by omega) (by omega) (hr.fr hS (by decide)) hs (hx _ (by omega)) (fun _ S' g1 g2 => br_f (by decide) (b86_run ht hK hx hr h14 hk0 hg h2 h m (k + 1) S' (by omega) g1 (hS.tr g2))) (fun z => absurd (h2 k (by omega)) z))
