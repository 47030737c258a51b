/-! 1 ball: the letters as numbers, places of statements -/
def ndg (c : Nat) : Nat := if c = 108 then 1 else 2
def nxp (tx : Nat → Nat) (p : Nat) : Nat := p + ndg (tx p) + 2
def plc (tx : Nat → Nat) : Nat → Nat
  | 0 => 0
  | k + 1 => nxp tx (plc tx k)
theorem plc_s (tx : Nat → Nat) (k : Nat) : plc tx (k + 1) = nxp tx (plc tx k) := rfl
def okS (tx : Nat → Nat) (L p : Nat) : Prop := ((tx p = 100 ∨ tx p = 112) ∧ 48 ≤ tx (p + 1) ∧ tx (p + 1) ≤ 57 ∧ 48 ≤ tx (p + 2) ∧ tx (p + 2) ≤ 57 ∧ tx (p + 3) = 59 ∧ p + 3 < L) ∨ (tx p = 108 ∧ 48 ≤ tx (p + 1) ∧ tx (p + 1) ≤ 57 ∧ tx (p + 2) = 59 ∧ p + 2 < L)
def WR (tx : Nat → Nat) (L p w : Nat) : Prop :=
  (w = p ∧ (L ≤ p ∨ (tx p ≠ 100 ∧ tx p ≠ 112 ∧ tx p ≠ 108)))
  ∨ (w = p + 1 ∧ p < L ∧ (tx p = 100 ∨ tx p = 112 ∨ tx p = 108) ∧ (L ≤ p + 1 ∨ tx (p + 1) < 48 ∨ 57 < tx (p + 1)))
  ∨ (w = p + 2 ∧ p + 1 < L ∧ (tx p = 100 ∨ tx p = 112) ∧ 48 ≤ tx (p + 1) ∧ tx (p + 1) ≤ 57 ∧ (L ≤ p + 2 ∨ tx (p + 2) < 48 ∨ 57 < tx (p + 2)))
  ∨ (w = p + 2 ∧ p + 1 < L ∧ tx p = 108 ∧ 48 ≤ tx (p + 1) ∧ tx (p + 1) ≤ 57 ∧ (L ≤ p + 2 ∨ tx (p + 2) ≠ 59))
  ∨ (w = p + 3 ∧ p + 2 < L ∧ (tx p = 100 ∨ tx p = 112) ∧ 48 ≤ tx (p + 1) ∧ tx (p + 1) ≤ 57 ∧ 48 ≤ tx (p + 2) ∧ tx (p + 2) ≤ 57 ∧ (L ≤ p + 3 ∨ tx (p + 3) ≠ 59))
theorem okS_nx {tx : Nat → Nat} {L p : Nat} (h : okS tx L p) : nxp tx p ≤ L ∧ p + 3 ≤ nxp tx p := by
  unfold nxp ndg
  rcases h with ⟨h1, _, _, _, _, _, h2⟩ | ⟨h1, _, _, _, h2⟩
  · rw [if_neg (by omega)]; omega
  · rw [if_pos h1]; omega
theorem okS_or (tx : Nat → Nat) (L p : Nat) : okS tx L p ∨ ∃ w, WR tx L p w := by
  by_cases c : okS tx L p
  · exact Or.inl c
  · refine Or.inr ?_
    by_cases c0 : L ≤ p ∨ (tx p ≠ 100 ∧ tx p ≠ 112 ∧ tx p ≠ 108)
    · exact ⟨p, Or.inl ⟨rfl, c0⟩⟩
    · by_cases c1 : L ≤ p + 1 ∨ tx (p + 1) < 48 ∨ 57 < tx (p + 1)
      · exact ⟨p + 1, Or.inr (Or.inl ⟨rfl, by omega, by omega, c1⟩)⟩
      · by_cases c2 : tx p = 108
        · refine ⟨p + 2, Or.inr (Or.inr (Or.inr (Or.inl ⟨rfl, by omega, c2, by omega, by omega, ?_⟩)))⟩
          by_cases c3 : L ≤ p + 2
          · exact Or.inl c3
          · exact Or.inr (fun e => c (Or.inr ⟨c2, by omega, by omega, e, by omega⟩))
        · by_cases c3 : L ≤ p + 2 ∨ tx (p + 2) < 48 ∨ 57 < tx (p + 2)
          · exact ⟨p + 2, Or.inr (Or.inr (Or.inl ⟨rfl, by omega, by omega, by omega, by omega, c3⟩))⟩
          · refine ⟨p + 3, Or.inr (Or.inr (Or.inr (Or.inr ⟨rfl, by omega, by omega, by omega, by omega, by omega, by omega, ?_⟩)))⟩
            by_cases c4 : L ≤ p + 3
            · exact Or.inl c4
            · exact Or.inr (fun e => c (Or.inl ⟨by omega, by omega, by omega, by omega, by omega, e, by omega⟩))
theorem plc_ok {tx : Nat → Nat} {L : Nat} : ∀ {k : Nat}, (∀ j, j < k → okS tx L (plc tx j)) → plc tx k ≤ L ∧ 3 * k ≤ plc tx k
  | 0, _ => ⟨Nat.zero_le _, Nat.le_refl _⟩
  | k + 1, h => by
    have h1 := plc_ok (k := k) (fun j hj => h j (by omega))
    have h2 := okS_nx (h k (by omega))
    rw [plc_s]; omega
def badL (tx : Nat → Nat) (L k w : Nat) : Prop := (∀ j, j < k → okS tx L (plc tx j)) ∧ (plc tx k < L ∨ k = 0) ∧ WR tx L (plc tx k) w
def goodL (tx : Nat → Nat) (L K : Nat) : Prop := 1 ≤ K ∧ (∀ j, j < K → okS tx L (plc tx j)) ∧ plc tx K = L
theorem dich (tx : Nat → Nat) (L : Nat) : ∀ (m k : Nat), L - plc tx k < m → (∀ j, j < k → okS tx L (plc tx j)) → (∃ k w, badL tx L k w) ∨ ∃ K, goodL tx L K
  | 0, _, h, _ => by omega
  | m + 1, k, h, hk => by
    have hp := plc_ok hk
    rcases Nat.eq_zero_or_pos k with h0 | h0
    · rcases okS_or tx L (plc tx k) with c | ⟨w, c⟩
      · have h2 := okS_nx c
        exact dich tx L m (k + 1) (by rw [plc_s]; omega) (fun j hj => by
          rcases Nat.lt_or_ge j k with q | q
          · exact hk j q
          · rw [show j = k by omega]; exact c)
      · exact Or.inl ⟨k, w, hk, Or.inr h0, c⟩
    · by_cases e : plc tx k = L
      · exact Or.inr ⟨k, h0, hk, e⟩
      · rcases okS_or tx L (plc tx k) with c | ⟨w, c⟩
        · have h2 := okS_nx c
          exact dich tx L m (k + 1) (by rw [plc_s]; omega) (fun j hj => by
            rcases Nat.lt_or_ge j k with q | q
            · exact hk j q
            · rw [show j = k by omega]; exact c)
        · exact Or.inl ⟨k, w, hk, Or.inl (by omega), c⟩
/-! the class: one statement -/
abbrev LT : Type := St × St
def txt (E : St) (tx : Nat → Nat) (L : Nat) : Prop := L ≤ 64 ∧ ∀ i, i < L → tx i < 256 ∧ E.2 1 i = nI (tx i)
theorem s_digitsB {S : LT} {tx : Nat → Nat} {L p : Nat} {Q : Int32 → LT → Prop} (hE : txt S.1 tx L) (hp : p < L) (h1 : (tx p = 100 ∨ tx p = 112 ∨ tx p = 108) → Q (nI (ndg (tx p))) S) (h0 : (tx p ≠ 100 ∧ tx p ≠ 112 ∧ tx p ≠ 108) → Q 0 S) : wp_X4_digitsBehind S (nI p) Q := by
  have hL := hE.1
  obtain ⟨g1, g2⟩ := hE.2 p hp
  unfold wp_X4_digitsBehind
  rw [nI_clamp (n := p) (by omega), g2]
  refine ⟨vp_in_nI (by omega) (by omega), ?_⟩
  have ee : ∀ c : Nat, c < 256 → (nI (tx p) = nI c ↔ tx p = c) := fun c hc => nI_inj8 (by omega) (by omega)
  by_cases c1 : tx p = 100
  · have := h1 (Or.inl c1)
    rw [show ndg (tx p) = 2 by rw [c1]; rfl] at this
    exact br_t ((ee 100 (by omega)).mpr c1) this
  · refine br_f (fun z => c1 ((ee 100 (by omega)).mp z)) ?_
    by_cases c2 : tx p = 108
    · have := h1 (Or.inr (Or.inr c2))
      rw [show ndg (tx p) = 1 by rw [c2]; rfl] at this
      exact br_t ((ee 108 (by omega)).mpr c2) this
    · refine br_f (fun z => c2 ((ee 108 (by omega)).mp z)) ?_
      by_cases c3 : tx p = 112
      · have := h1 (Or.inr (Or.inl c3))
        rw [show ndg (tx p) = 2 by rw [c3]; rfl] at this
        exact br_t ((ee 112 (by omega)).mpr c3) this
      · exact br_f (fun z => c3 ((ee 112 (by omega)).mp z)) (h0 ⟨c1, c3, c2⟩)
theorem l31_d {S : LT} {tx : Nat → Nat} {L q d i n : Nat} {K : LT → Int32 → Prop} {Q : Int32 → LT → Prop} (hE : txt S.1 tx L) (hq : q < L) (hd : d ≤ 2) (hi : i < d) (h1 : 48 ≤ tx q) (h2 : tx q ≤ 57) (h : wp_X4_firstWrongLetter_31 K (nI L) Q n S (nI (q + 1)) (nI d) (nI (i + 1))) : wp_X4_firstWrongLetter_31 K (nI L) Q (n + 1) S (nI q) (nI d) (nI i) := by
  have hL := hE.1
  obtain ⟨g1, g2⟩ := hE.2 q hq
  have hv : vp_in (nI q) 64 := vp_in_nI (by omega) (by omega)
  unfold wp_X4_firstWrongLetter_31
  rw [nI_clamp (n := q) (by omega), g2, nI_1 q, nI_1 i]
  exact br_f (fun c => by rw [nI_leI (by omega) (by omega)] at c; omega) (br_f (fun c => by rw [nI_leI (by omega) (by omega)] at c; omega) ⟨hv, br_f (fun c => by rw [show (48 : Int32) = nI 48 from rfl, nI_ltI (by omega) (by omega)] at c; omega) ⟨hv, br_t (by rw [show (57 : Int32) = nI 57 from rfl, nI_leI (by omega) (by omega)]; omega) h⟩⟩)
theorem l31_e {S : LT} {tx : Nat → Nat} {L q d n : Nat} {K : LT → Int32 → Prop} {Q : Int32 → LT → Prop} (hE : txt S.1 tx L) (hq : q < L) (hd : d ≤ 2) (h1 : tx q = 59) (h : K S (nI (q + 1))) : wp_X4_firstWrongLetter_31 K (nI L) Q (n + 1) S (nI q) (nI d) (nI d) := by
  have hL := hE.1
  obtain ⟨g1, g2⟩ := hE.2 q hq
  have hv : vp_in (nI q) 64 := vp_in_nI (by omega) (by omega)
  unfold wp_X4_firstWrongLetter_31
  rw [nI_clamp (n := q) (by omega), g2, nI_1 q]
  exact br_t (nI_le (Nat.le_refl _) (by omega)) (br_f (fun c => by rw [nI_leI (by omega) (by omega)] at c; omega) ⟨hv, br_t (by rw [h1]; rfl) h⟩)
theorem l31_wd {S : LT} {tx : Nat → Nat} {L q d i n : Nat} {K : LT → Int32 → Prop} {Q : Int32 → LT → Prop} (hE : txt S.1 tx L) (hq : q < 100) (hd : d ≤ 2) (hi : i < d) (h1 : L ≤ q ∨ tx q < 48 ∨ 57 < tx q) (h : Q (nI q) S) : wp_X4_firstWrongLetter_31 K (nI L) Q (n + 1) S (nI q) (nI d) (nI i) := by
  have hL := hE.1
  unfold wp_X4_firstWrongLetter_31
  refine br_f (fun c => by rw [nI_leI (by omega) (by omega)] at c; omega) ?_
  by_cases c0 : L ≤ q
  · exact br_t (nI_le c0 (by omega)) h
  · obtain ⟨g1, g2⟩ := hE.2 q (by omega)
    have hv : vp_in (nI q) 64 := vp_in_nI (by omega) (by omega)
    rw [nI_clamp (n := q) (by omega), g2]
    refine br_f (fun c => by rw [nI_leI (by omega) (by omega)] at c; omega) ⟨hv, ?_⟩
    by_cases c1 : tx q < 48
    · exact br_t (by rw [show (48 : Int32) = nI 48 from rfl, nI_ltI (by omega) (by omega)]; omega) h
    · exact br_f (fun c => by rw [show (48 : Int32) = nI 48 from rfl, nI_ltI (by omega) (by omega)] at c; omega) ⟨hv, br_f (fun c => by rw [show (57 : Int32) = nI 57 from rfl, nI_leI (by omega) (by omega)] at c; omega) h⟩
theorem l31_we {S : LT} {tx : Nat → Nat} {L q d n : Nat} {K : LT → Int32 → Prop} {Q : Int32 → LT → Prop} (hE : txt S.1 tx L) (hq : q < 100) (hd : d ≤ 2) (h1 : L ≤ q ∨ tx q ≠ 59) (h : Q (nI q) S) : wp_X4_firstWrongLetter_31 K (nI L) Q (n + 1) S (nI q) (nI d) (nI d) := by
  have hL := hE.1
  unfold wp_X4_firstWrongLetter_31
  refine br_t (nI_le (Nat.le_refl _) (by omega)) ?_
  by_cases c0 : L ≤ q
  · exact br_t (nI_le c0 (by omega)) h
  · obtain ⟨g1, g2⟩ := hE.2 q (by omega)
    have hv : vp_in (nI q) 64 := vp_in_nI (by omega) (by omega)
    rw [nI_clamp (n := q) (by omega), g2]
    exact br_f (fun c => by rw [nI_leI (by omega) (by omega)] at c; omega) ⟨hv, br_f (fun c => by rw [show (59 : Int32) = nI 59 from rfl, nI_inj8 (by omega) (by omega)] at c; omega) h⟩
/-- good: on to the next place -/
theorem l31_ok {S : LT} {tx : Nat → Nat} {L p : Nat} {K : LT → Int32 → Prop} {Q : Int32 → LT → Prop} (hE : txt S.1 tx L) (h : okS tx L p) (hK : K S (nI (nxp tx p))) : ∃ i, wp_X4_firstWrongLetter_31 K (nI L) Q i S (nI (p + 1)) (nI (ndg (tx p))) 0 := by
  have hL := hE.1
  unfold nxp at hK
  rcases h with ⟨h1, h2, h3, h4, h5, h6, h7⟩ | ⟨h1, h2, h3, h4, h5⟩
  · have e : ndg (tx p) = 2 := if_neg (by omega)
    rw [e] at hK ⊢
    exact ⟨3, l31_d (i := 0) hE (by omega) (by omega) (by omega) h2 h3 (l31_d (i := 1) hE (by omega) (by omega) (by omega) h4 h5 (l31_e (d := 2) hE (by omega) (by omega) h6 hK))⟩
  · have e : ndg (tx p) = 1 := if_pos h1
    rw [e] at hK ⊢
    exact ⟨2, l31_d (i := 0) hE (by omega) (by omega) (by omega) h2 h3 (l31_e (d := 1) hE (by omega) (by omega) h4 hK)⟩
theorem l8_ok {S : LT} {tx : Nat → Nat} {L p n : Nat} {Q : Int32 → LT → Prop} (hE : txt S.1 tx L) (h : okS tx L p) (hK : wp_X4_firstWrongLetter_8 (nI L) Q n S (nI (nxp tx p))) : wp_X4_firstWrongLetter_8 (nI L) Q (n + 1) S (nI p) := by
  have hL := hE.1
  have hp : p < L := by rcases h with ⟨_, _, _, _, _, _, _⟩ | ⟨_, _, _, _, _⟩ <;> omega
  unfold wp_X4_firstWrongLetter_8
  rw [nI_1 p]
  refine br_f (fun c => by rw [nI_leI (by omega) (by omega)] at c; omega) (s_digitsB hE hp (fun _ => bn_t ?_ (l31_ok hE h hK)) (fun z => ?_))
  · refine nI_ne0 ?_ ?_ <;> unfold ndg <;> split <;> omega
  · rcases h with ⟨_, _, _, _, _, _, _⟩ | ⟨_, _, _, _, _⟩ <;> omega
theorem l8_bad {S : LT} {tx : Nat → Nat} {L p w n : Nat} {Q : Int32 → LT → Prop} (hE : txt S.1 tx L) (hp : p < L) (h : WR tx L p w) (hQ : Q (nI w) S) : wp_X4_firstWrongLetter_8 (nI L) Q (n + 1) S (nI p) := by
  have hL := hE.1
  unfold wp_X4_firstWrongLetter_8
  rw [nI_1 p]
  have e2 : (tx p = 100 ∨ tx p = 112) → ndg (tx p) = 2 := fun z => if_neg (by omega)
  have e1 : tx p = 108 → ndg (tx p) = 1 := fun z => if_pos z
  refine br_f (fun c => by rw [nI_leI (by omega) (by omega)] at c; omega) (s_digitsB hE hp (fun hz => bn_t (by refine nI_ne0 ?_ ?_ <;> unfold ndg <;> split <;> omega) ?_) (fun z => bn_f rfl ?_))
  · rcases h with ⟨g1, g2⟩ | ⟨g1, g2, g3, g4⟩ | ⟨g1, g2, g3, g4, g5, g6⟩ | ⟨g1, g2, g3, g4, g5, g6⟩ | ⟨g1, g2, g3, g4, g5, g6, g7, g8⟩
    · omega
    · rw [g1] at hQ
      have : 0 < ndg (tx p) ∧ ndg (tx p) ≤ 2 := by unfold ndg; split <;> omega
      exact ⟨1, l31_wd (i := 0) hE (by omega) this.2 this.1 g4 hQ⟩
    · rw [g1] at hQ
      rw [e2 g3]
      exact ⟨2, l31_d (i := 0) hE (by omega) (by omega) (by omega) g4 g5 (l31_wd (i := 1) hE (by omega) (by omega) (by omega) g6 hQ)⟩
    · rw [g1] at hQ
      rw [e1 g3]
      exact ⟨2, l31_d (i := 0) hE (by omega) (by omega) (by omega) g4 g5 (l31_we (d := 1) hE (by omega) (by omega) g6 hQ)⟩
    · rw [g1] at hQ
      rw [e2 g3]
      exact ⟨3, l31_d (i := 0) hE (by omega) (by omega) (by omega) g4 g5 (l31_d (i := 1) hE (by omega) (by omega) (by omega) g6 g7 (l31_we (d := 2) hE (by omega) (by omega) g8 hQ))⟩
  · have : w = p := by
      rcases h with ⟨g1, g2⟩ | ⟨g1, g2, g3, g4⟩ | ⟨g1, g2, g3, g4, g5, g6⟩ | ⟨g1, g2, g3, g4, g5, g6⟩ | ⟨g1, g2, g3, g4, g5, g6, g7, g8⟩ <;> omega
    rw [this] at hQ
    exact hQ
theorem l8_run {S : LT} {tx : Nat → Nat} {L k0 n : Nat} {Q : Int32 → LT → Prop} (hE : txt S.1 tx L) (h : ∀ j, j < k0 → okS tx L (plc tx j)) (hK : wp_X4_firstWrongLetter_8 (nI L) Q n S (nI (plc tx k0))) : ∀ (m k : Nat), k + m = k0 → wp_X4_firstWrongLetter_8 (nI L) Q (m + n) S (nI (plc tx k))
  | 0, k, hk => by
    rw [show k = k0 by omega, Nat.zero_add]; exact hK
  | m + 1, k, hk => by
    rw [show m + 1 + n = m + n + 1 by omega]
    exact l8_ok hE (h k (by omega)) (l8_run hE h hK m (k + 1) (by omega))
theorem s_fwl_bad {S : LT} {tx : Nat → Nat} {L k w : Nat} {Q : Int32 → LT → Prop} (hE : txt S.1 tx L) (h : badL tx L k w) (hQ : Q (nI w) S) : wp_X4_firstWrongLetter S (nI L) Q := by
  have hL := hE.1
  obtain ⟨h1, h2, h3⟩ := h
  unfold wp_X4_firstWrongLetter
  by_cases c : L = 0
  · refine bn_f (by rw [c]; rfl) ?_
    have hp := plc_ok h1
    have e : w = 0 := by
      have : plc tx k = 0 := by omega
      rw [this] at h3
      rcases h3 with ⟨g1, g2⟩ | ⟨g1, g2, g3, g4⟩ | ⟨g1, g2, g3, g4, g5, g6⟩ | ⟨g1, g2, g3, g4, g5, g6⟩ | ⟨g1, g2, g3, g4, g5, g6, g7, g8⟩ <;> omega
    rw [e] at hQ; exact hQ
  · refine bn_t (nI_ne0 (by omega) (by omega)) ⟨k + 1, l8_run hE h1 (l8_bad hE ?_ h3 hQ) k 0 (by omega)⟩
    rcases h2 with z | z
    · exact z
    · rw [z]; show 0 < L; omega
theorem s_fwl_good {S : LT} {tx : Nat → Nat} {L K : Nat} {Q : Int32 → LT → Prop} (hE : txt S.1 tx L) (h : goodL tx L K) (hQ : Q (-1) S) : wp_X4_firstWrongLetter S (nI L) Q := by
  have hL := hE.1
  obtain ⟨h1, h2, h3⟩ := h
  have hp := plc_ok h2
  unfold wp_X4_firstWrongLetter
  refine bn_t (nI_ne0 (by omega) (by omega)) ⟨K + 1, l8_run hE h2 ?_ K 0 (by omega)⟩
  unfold wp_X4_firstWrongLetter_8
  rw [h3]
  exact br_t (nI_le (Nat.le_refl _) (by omega)) hQ
/-! what a statement does -/
def d1 (tx : Nat → Nat) (p : Nat) : Nat := tx (p + 1) - 48
def d2 (tx : Nat → Nat) (p : Nat) : Nat := tx (p + 2) - 48
def admT (t : TV) (k g : Nat) : TV := (tn t + 1, tl t, fun i => if i = tn t then k else tk t i, fun i => if i = tn t then g else tg t i, fun i => if i = tn t then 0 else tb t i, te t)
def okX (tx : Nat → Nat) (t : TV) (p : Nat) : Prop := (tx p = 100 → tn t < 8 ∧ d1 tx p ≤ 5) ∧ (tx p = 112 → d1 tx p < tn t ∧ d2 tx p < tn t ∧ d1 tx p ≠ d2 tx p) ∧ (tx p = 108 → d1 tx p ≤ 2)
def nxT (tx : Nat → Nat) (t : TV) (p : Nat) : TV := if tx p = 100 then admT t (d1 tx p) (d2 tx p) else if tx p = 112 then addT t (d1 tx p) (d2 tx p) else lawT t (d1 tx p)
theorem okT.adm {t : TV} (ht : okT t) {k g : Nat} (h1 : tn t < 8) (h2 : k ≤ 5) (h3 : g ≤ 9) : okT (admT t k g) := by
  obtain ⟨g1, g2, g3, g4, g5, g6⟩ := ht
  refine ⟨h1, g2, fun i => ?_, fun i => ?_, fun i j z => ?_, g6⟩
  · show (if i = tn t then k else tk t i) ≤ 5
    split
    · exact h2
    · exact g3 i
  · show (if i = tn t then g else tg t i) ≤ 9
    split
    · exact h3
    · exact g4 i
  · obtain ⟨q1, q2, q3⟩ := g5 i j z
    exact ⟨Nat.lt_succ_of_lt q1, Nat.lt_succ_of_lt q2, q3⟩
theorem okS_d {tx : Nat → Nat} {L p : Nat} (h : okS tx L p) : d1 tx p ≤ 9 ∧ (tx p ≠ 108 → d2 tx p ≤ 9) := by
  unfold d1 d2
  rcases h with ⟨_, _, _, _, _, _, _⟩ | ⟨_, _, _, _, _⟩
  · exact ⟨by omega, fun _ => by omega⟩
  · exact ⟨by omega, fun z => by omega⟩
theorem okS_c {tx : Nat → Nat} {L p : Nat} (h : okS tx L p) : p + 2 < L ∧ (tx p = 100 ∨ tx p = 112 ∨ tx p = 108) := by
  rcases h with ⟨_, _, _, _, _, _, _⟩ | ⟨_, _, _, _, _⟩ <;> omega
theorem okT.nxt {tx : Nat → Nat} {t : TV} {L p : Nat} (ht : okT t) (hs : okS tx L p) (h : okX tx t p) : okT (nxT tx t p) := by
  have hd := okS_d hs
  have hc := okS_c hs
  unfold nxT
  by_cases c1 : tx p = 100
  · rw [if_pos c1]
    exact ht.adm (h.1 c1).1 (h.1 c1).2 (hd.2 (by omega))
  · rw [if_neg c1]
    by_cases c2 : tx p = 112
    · rw [if_pos c2]
      obtain ⟨g1, g2, g3⟩ := h.2.1 c2
      exact ht.add g1 g2 g3
    · rw [if_neg c2]
      exact ⟨ht.1, h.2.2 (by omega), ht.2.2⟩
theorem absF.adm {F : St} {t : TV} (hF : absF F t) (ht : okT t) {k g : Nat} {F' : St} (e1 : F'.1 0 = nI (tn t + 1)) (e2 : F'.1 1 = F.1 1) (h2 : F'.2 2 = upd (F.2 2) (tn t) (nI k)) (h3 : F'.2 3 = upd (F.2 3) (tn t) (nI g)) (h4 : F'.2 4 = upd (F.2 4) (tn t) 0) (h5 : F'.2 5 = upd (F.2 5) (tn t) 0) : absF F' (admT t k g) := by
  obtain ⟨g1, g2, g3, g4, g5, g6⟩ := hF
  refine ⟨e1, e2.trans g2, fun i hi => ?_, fun i hi => ?_, fun i hi => ?_, fun i hi j => ?_⟩
  · have hi' : i < tn t + 1 := hi
    show F'.2 2 i = nI (if i = tn t then k else tk t i)
    rw [h2]
    by_cases c : i = tn t
    · rw [c, upd_s, if_pos rfl]
    · rw [upd_n _ _ c, if_neg c]; exact g3 i (by omega)
  · have hi' : i < tn t + 1 := hi
    show F'.2 3 i = nI (if i = tn t then g else tg t i)
    rw [h3]
    by_cases c : i = tn t
    · rw [c, upd_s, if_pos rfl]
    · rw [upd_n _ _ c, if_neg c]; exact g4 i (by omega)
  · have hi' : i < tn t + 1 := hi
    show F'.2 4 i = if i = tn t then 0 else tb t i
    rw [h4]
    by_cases c : i = tn t
    · rw [c, upd_s, if_pos rfl]
    · rw [upd_n _ _ c, if_neg c]; exact g5 i (by omega)
  · have hi' : i < tn t + 1 := hi
    show bt (F'.2 5 i) j = te t i j
    rw [h5]
    by_cases c : i = tn t
    · rw [c, upd_s, b_0, ht.2.2.2.2.2]
      exact (ht.big (Nat.le_refl _)).symm
    · rw [upd_n _ _ c]; exact g6 i (by omega) j
theorem s_admit {F : St} {t : TV} {k g : Nat} {Q : Int32 → St → Prop} (hF : absF F t) (ht : okT t) (hk : k < 100) (h1 : tn t < 8 ∧ k ≤ 5 → ∀ F', absF F' (admT t k g) → Q 1 F') (h0 : ¬ (tn t < 8 ∧ k ≤ 5) → Q 0 F) : wp_X2_admit F (nI k) (nI g) Q := by
  have hn := ht.1
  unfold wp_X2_admit
  rw [hF.1]
  by_cases c1 : 8 ≤ tn t
  · exact br_t (by rw [show (8 : Int32) = nI 8 from rfl, nI_leI (by omega) (by omega)]; exact c1) (h0 (by omega))
  · refine br_f (fun c => by rw [show (8 : Int32) = nI 8 from rfl, nI_leI (by omega) (by omega)] at c; omega) (br_f (nI_pos (by omega)) ?_)
    by_cases c2 : k ≤ 5
    · have hv : vp_in (nI (tn t)) 8 := vp_in_nI (by omega) (by omega)
      refine br_t (by rw [show (5 : Int32) = nI 5 from rfl, nI_leI (by omega) (by omega)]; exact c2) ⟨hv, fun S4 e4 => ?_⟩
      rw [nI_clamp (n := tn t) (by omega)] at e4
      have k4 : S4.1 0 = nI (tn t) := by rw [e4]; exact hF.1
      rw [k4, nI_clamp (n := tn t) (by omega)]
      refine ⟨hv, fun S6 e6 => ?_⟩
      have k6 : S6.1 0 = nI (tn t) := by rw [e6]; exact k4
      rw [k6, nI_clamp (n := tn t) (by omega)]
      refine ⟨hv, fun S8 e8 => ?_⟩
      have k8 : S8.1 0 = nI (tn t) := by rw [e8]; exact k6
      rw [k8, nI_clamp (n := tn t) (by omega)]
      refine ⟨hv, fun S10 e10 S12 e12 => h1 ⟨by omega, c2⟩ S12 ?_⟩
      have k10 : S10.1 0 = nI (tn t) := by rw [e10]; exact k8
      refine hF.adm ht ?_ ?_ ?_ ?_ ?_ ?_
      · rw [e12, sI_s, k10, nI_1]
      · rw [e12, sI_n _ _ (by decide), e10, e8, e6, e4]; rfl
      · rw [e12, sI_2, e10, sA_n _ _ _ (by decide), e8, sA_n _ _ _ (by decide), e6, sA_n _ _ _ (by decide), e4, sA_s]
      · rw [e12, sI_2, e10, sA_n _ _ _ (by decide), e8, sA_n _ _ _ (by decide), e6, sA_s, e4, sA_n _ _ _ (by decide)]
      · rw [e12, sI_2, e10, sA_n _ _ _ (by decide), e8, sA_s, e6, sA_n _ _ _ (by decide), e4, sA_n _ _ _ (by decide)]
      · rw [e12, sI_2, e10, sA_s, e8, sA_n _ _ _ (by decide), e6, sA_n _ _ _ (by decide), e4, sA_n _ _ _ (by decide)]
    · exact br_f (fun c => by rw [show (5 : Int32) = nI 5 from rfl, nI_leI (by omega) (by omega)] at c; omega) (h0 (by omega))
theorem s_joinN {F : St} {t : TV} {a b : Nat} {Q : Int32 → St → Prop} (hF : absF F t) (ht : okT t) (ha : a < 100) (hb : b < 100) (h1 : a < tn t ∧ b < tn t ∧ a ≠ b → ∀ F', absF F' (addT t a b) → Q 1 F') (h0 : ¬ (a < tn t ∧ b < tn t ∧ a ≠ b) → Q 0 F) : wp_X2_join F (nI a) (nI b) Q := by
  have hn := ht.1
  by_cases c : a < tn t ∧ b < tn t ∧ a ≠ b
  · exact s_join hF ht c.1 c.2.1 c.2.2 (h1 c)
  · unfold wp_X2_join
    refine s_areTwo hF ht (fun p q g1 g2 g3 g4 g5 => ?_) (fun _ => bn_f rfl (h0 c))
    rw [nI_inj8 (by omega) (by omega)] at g4 g5
    subst g4; subst g5
    exact absurd ⟨g1, g2, g3⟩ c
theorem absF.law {F : St} {t : TV} (hF : absF F t) (l : Nat) : absF (sI F 1 (nI l)) (lawT t l) := ⟨hF.1, by rw [sI_s]; rfl, hF.2.2.1, hF.2.2.2.1, hF.2.2.2.2.1, hF.2.2.2.2.2⟩
theorem s_digitAt {S : LT} {tx : Nat → Nat} {L q : Nat} {Q : Int32 → LT → Prop} (hE : txt S.1 tx L) (hq : q < L) (h1 : 48 ≤ tx q) (h : Q (nI (tx q - 48)) S) : wp_X4_digitAt S (nI q) Q := by
  have hL := hE.1
  obtain ⟨g1, g2⟩ := hE.2 q hq
  unfold wp_X4_digitAt
  rw [nI_clamp (n := q) (by omega), g2, show nI (tx q) - (48 : Int32) = nI (tx q - 48) from pk_sub (b := 48) h1]
  exact br_f (fun c => by rw [show (64 : Int32) = nI 64 from rfl, nI_leI (by omega) (by omega)] at c; omega) ⟨vp_in_nI (by omega) (by omega), h⟩
theorem s_carry {E F : St} {tx : Nat → Nat} {t : TV} {L p : Nat} {Q : Int32 → LT → Prop} (hE : txt E tx L) (hF : absF F t) (ht : okT t) (hs : okS tx L p) (h1 : okX tx t p → ∀ F', absF F' (nxT tx t p) → Q 1 (E, F')) (h0 : ¬ okX tx t p → ∀ F', Q 0 (E, F')) : wp_X4_isCarriedOut (E, F) (nI p) Q := by
  have hL := hE.1
  have hc := okS_c hs
  obtain ⟨g1, g2⟩ := hE.2 p (by omega)
  have hd := okS_d hs
  have hb : 48 ≤ tx (p + 1) ∧ (tx p ≠ 108 → 48 ≤ tx (p + 2)) := by
    rcases hs with ⟨_, _, _, _, _, _, _⟩ | ⟨_, _, _, _, _⟩
    · exact ⟨by omega, fun _ => by omega⟩
    · exact ⟨by omega, fun z => by omega⟩
  have ee : ∀ c : Nat, c < 256 → (nI (tx p) = nI c ↔ tx p = c) := fun c hc => nI_inj8 (by omega) (by omega)
  unfold wp_X4_isCarriedOut
  rw [nI_clamp (n := p) (by omega), show nI p + (2 : Int32) = nI (p + 2) from nI_add p 2, nI_1 p]
  show vp_in (nI p) 64 ∧ (E.2 1 p = 100 → _) ∧ (¬ E.2 1 p = 100 → (E.2 1 p = 112 → _) ∧ (¬ E.2 1 p = 112 → _))
  rw [g2]
  refine ⟨vp_in_nI (by omega) (by omega), ?_⟩
  by_cases c1 : tx p = 100
  · refine br_t ((ee 100 (by omega)).mpr c1) (s_digitAt hE (by omega) hb.1 (s_digitAt hE (by omega) (hb.2 (by omega)) ?_))
    show wp_X2_admit F (nI (d1 tx p)) (nI (d2 tx p)) _
    refine s_admit hF ht (by omega) (fun z F' hF' S8 e8 => ⟨Or.inr rfl, ?_⟩) (fun z S8 e8 => ⟨Or.inl rfl, ?_⟩)
    · rw [e8]
      refine h1 ⟨fun _ => z, fun w => by omega, fun w => by omega⟩ F' ?_
      unfold nxT; rw [if_pos c1]; exact hF'
    · rw [e8]
      exact h0 (fun w => z (w.1 c1)) F
  · refine br_f (fun z => c1 ((ee 100 (by omega)).mp z)) ?_
    by_cases c2 : tx p = 112
    · refine br_t ((ee 112 (by omega)).mpr c2) (s_digitAt hE (by omega) hb.1 (s_digitAt hE (by omega) (hb.2 (by omega)) ?_))
      show wp_X2_join F (nI (d1 tx p)) (nI (d2 tx p)) _
      refine s_joinN hF ht (by omega) (by have := hd.2 (by omega); omega) (fun z F' hF' S8 e8 => ⟨Or.inr rfl, ?_⟩) (fun z S8 e8 => ⟨Or.inl rfl, ?_⟩)
      · rw [e8]
        refine h1 ⟨fun w => by omega, fun _ => z, fun w => by omega⟩ F' ?_
        unfold nxT; rw [if_neg c1, if_pos c2]; exact hF'
      · rw [e8]
        exact h0 (fun w => z (w.2.1 c2)) F
    · refine br_f (fun z => c2 ((ee 112 (by omega)).mp z)) (s_digitAt hE (by omega) hb.1 ?_)
      show wp_X2_changeLaw F (nI (d1 tx p)) _
      unfold wp_X2_changeLaw wp_X6_isLaw
      refine br_f (nI_pos (by omega)) ?_
      by_cases c3 : d1 tx p ≤ 2
      · refine br_f (fun c => by rw [show (2 : Int32) = nI 2 from rfl, nI_ltI (by omega) (by omega)] at c; omega) (bn_t (by decide) (fun S3 e3 S8 e8 => ⟨Or.inr rfl, ?_⟩))
        rw [e8, e3]
        refine h1 ⟨fun w => by omega, fun w => by omega, fun _ => c3⟩ _ ?_
        unfold nxT; rw [if_neg c1, if_neg c2]; exact hF.law _
      · refine br_t (by rw [show (2 : Int32) = nI 2 from rfl, nI_ltI (by omega) (by omega)]; omega) (bn_f rfl (fun S8 e8 => ⟨Or.inl rfl, ?_⟩))
        rw [e8]
        exact h0 (fun w => c3 (w.2.2 (by omega))) F
/-! the floors as the statements come -/
def tvs (tx : Nat → Nat) (t0 : TV) : Nat → TV
  | 0 => t0
  | k + 1 => nxT tx (tvs tx t0 k) (plc tx k)
theorem tvs_s (tx : Nat → Nat) (t0 : TV) (k : Nat) : tvs tx t0 (k + 1) = nxT tx (tvs tx t0 k) (plc tx k) := rfl
theorem okT_tvs {tx : Nat → Nat} {t0 : TV} {L : Nat} (ht : okT t0) : ∀ {k : Nat}, (∀ j, j < k → okS tx L (plc tx j)) → (∀ j, j < k → okX tx (tvs tx t0 j) (plc tx j)) → okT (tvs tx t0 k)
  | 0, _, _ => ht
  | k + 1, h1, h2 => (okT_tvs ht (k := k) (fun j hj => h1 j (by omega)) (fun j hj => h2 j (by omega))).nxt (h1 k (by omega)) (h2 k (by omega))
theorem dich2 (P : Nat → Prop) : ∀ K : Nat, (∃ k, k < K ∧ (∀ j, j < k → P j) ∧ ¬ P k) ∨ ∀ j, j < K → P j
  | 0 => Or.inr (fun j hj => by omega)
  | K + 1 => by
    rcases dich2 P K with ⟨k, h1, h2, h3⟩ | h
    · exact Or.inl ⟨k, by omega, h2, h3⟩
    · by_cases c : P K
      · refine Or.inr (fun j hj => ?_)
        rcases Nat.lt_or_ge j K with q | q
        · exact h j q
        · rw [show j = K by omega]; exact c
      · exact Or.inl ⟨K, by omega, h, c⟩
theorem l40_step {E F D : St} {tx : Nat → Nat} {t : TV} {L p k n : Nat} {Q : Int32 → LT → St → Prop} (hE : txt E tx L) (hF : absF F t) (ht : okT t) (hs : okS tx L p) (hx : okX tx t p) (h : ∀ F', absF F' (nxT tx t p) → wp_X4_tellAll_40 Q n (E, F') D (nI L) (nI (k + 1)) (nI (nxp tx p))) : wp_X4_tellAll_40 Q (n + 1) (E, F) D (nI L) (nI k) (nI p) := by
  have hL := hE.1
  have hc := okS_c hs
  unfold wp_X4_tellAll_40
  rw [nI_1 k]
  refine br_f (fun c => by rw [nI_leI (by omega) (by omega)] at c; omega) (s_carry hE hF ht hs (fun _ F' hF' => bn_t (by decide) (s_digitsB (S := (E, F')) hE (by omega) (fun _ => ?_) (fun z => by omega))) (fun z => absurd hx z))
  rw [show nI (ndg (tx p)) + (2 : Int32) = nI (ndg (tx p) + 2) from nI_add _ 2, nI_add]
  exact h F' hF'
theorem l40_fail {E F D : St} {tx : Nat → Nat} {t : TV} {L p k n : Nat} {Q : Int32 → LT → St → Prop} (hE : txt E tx L) (hF : absF F t) (ht : okT t) (hs : okS tx L p) (hx : ¬ okX tx t p) (h : ∀ F', Q (-2000 - nI p) (E, F') D) : wp_X4_tellAll_40 Q (n + 1) (E, F) D (nI L) (nI k) (nI p) := by
  have hL := hE.1
  have hc := okS_c hs
  unfold wp_X4_tellAll_40
  exact br_f (fun c => by rw [nI_leI (by omega) (by omega)] at c; omega) (s_carry hE hF ht hs (fun z => absurd z hx) (fun _ F' => bn_f rfl (h F')))
theorem l40_run {E D : St} {tx : Nat → Nat} {t0 : TV} {L k0 n : Nat} {Q : Int32 → LT → St → Prop} (hE : txt E tx L) (ht : okT t0) (h1 : ∀ j, j < k0 → okS tx L (plc tx j)) (h2 : ∀ j, j < k0 → okX tx (tvs tx t0 j) (plc tx j)) (h : ∀ F, absF F (tvs tx t0 k0) → wp_X4_tellAll_40 Q n (E, F) D (nI L) (nI k0) (nI (plc tx k0))) :
    ∀ (m k : Nat) (F : St), k + m = k0 → absF F (tvs tx t0 k) → wp_X4_tellAll_40 Q (m + n) (E, F) D (nI L) (nI k) (nI (plc tx k))
  | 0, k, F, hk, hF => by
    have : k = k0 := by omega
    subst this
    rw [Nat.zero_add]; exact h F hF
  | m + 1, k, F, hk, hF => by
    rw [show m + 1 + n = m + n + 1 by omega]
    exact l40_step hE hF (okT_tvs ht (fun j hj => h1 j (by omega)) (fun j hj => h2 j (by omega))) (h1 k (by omega)) (h2 k (by omega)) (fun F' hF' => l40_run hE ht h1 h2 h m (k + 1) F' (by omega) hF')
