/-! a floor's picture: how many, law, kinds, figures, brought, who has danced with whom -/
abbrev TV : Type := Nat × Nat × (Nat → Nat) × (Nat → Nat) × (Nat → Int32) × (Nat → Nat → Bool)
def tn (t : TV) : Nat := t.1
def tl (t : TV) : Nat := t.2.1
def tk (t : TV) : Nat → Nat := t.2.2.1
def tg (t : TV) : Nat → Nat := t.2.2.2.1
def tb (t : TV) : Nat → Int32 := t.2.2.2.2.1
def te (t : TV) : Nat → Nat → Bool := t.2.2.2.2.2
def absF (F : St) (t : TV) : Prop :=
  F.1 0 = nI (tn t) ∧ F.1 1 = nI (tl t) ∧ (∀ i, i < tn t → F.2 2 i = nI (tk t i)) ∧ (∀ i, i < tn t → F.2 3 i = nI (tg t i)) ∧ (∀ i, i < tn t → F.2 4 i = tb t i) ∧ (∀ i, i < tn t → ∀ j, bt (F.2 5 i) j = te t i j)
def okT (t : TV) : Prop := tn t ≤ 8 ∧ tl t ≤ 2 ∧ (∀ i, tk t i ≤ 5) ∧ (∀ i, tg t i ≤ 9) ∧ (∀ i j, te t i j = true → i < tn t ∧ j < tn t ∧ i ≠ j) ∧ (∀ i j, te t i j = te t j i)
/-- the reference's floor, in the class's slots -/
def flM (Y : St) : St := (fun s => if s = 0 then Y.1 5 else Y.1 6, fun s => Y.2 (s - 1))
theorem okT.big {t : TV} (ht : okT t) {i j : Nat} (h : tn t ≤ j) : te t i j = false := by
  cases c : te t i j
  · rfl
  · have := (ht.2.2.2.2.1 i j c).2.1; omega
theorem okT.self {t : TV} (ht : okT t) (i : Nat) : te t i i = false := by
  cases c : te t i i
  · rfl
  · exact absurd rfl (ht.2.2.2.2.1 i i c).2.2
theorem nI_sub1 {a b : Nat} (ha : a < 1000) (hb : b < 1000) : nI a - nI b = 1 ↔ a = b + 1 := by
  have h := pk_sub_toInt (a := a) (b := b) (by omega) (by omega)
  have h1 : (1 : Int32).toInt = 1 := rfl
  constructor
  · intro e
    rw [e, h1] at h
    omega
  · intro e
    refine Int32.toInt_inj.mp ?_
    rw [h, h1]
    omega
/-! is there, are two -/
theorem s_isThere {F : St} {t : TV} {x : Int32} {Q : Int32 → St → Prop} (hF : absF F t) (ht : okT t) (h1 : ∀ a, a < tn t → x = nI a → Q 1 F) (h0 : (∀ a, a < tn t → x ≠ nI a) → Q 0 F) : wp_X2_isThere F x Q := by
  unfold wp_X2_isThere
  have hn := ht.1
  by_cases c0 : x < 0
  · refine br_t c0 (h0 (fun a ha e => ?_))
    rw [e] at c0
    exact absurd c0 (nI_pos (by omega))
  · refine br_f c0 ?_
    rw [hF.1]
    rcases pk_ix x (n := tn t) (by omega) with c | c | ⟨a, ha, e⟩
    · exact absurd c c0
    · refine br_t c (h0 (fun a ha e => ?_))
      rw [e, nI_leI (by omega) (by omega)] at c
      omega
    · refine br_f (fun c => ?_) (h1 a ha e)
      rw [e, nI_leI (by omega) (by omega)] at c
      omega
theorem s7_isDancer {Y : St} {t : TV} {x : Int32} {Q : Int32 → St → Prop} (hF : absF (flM Y) t) (ht : okT t) (h1 : ∀ a, a < tn t → x = nI a → Q 1 Y) (h0 : (∀ a, a < tn t → x ≠ nI a) → Q 0 Y) : wp_X7_isDancer Y x Q := by
  unfold wp_X7_isDancer
  have hn := ht.1
  have e5 : Y.1 5 = nI (tn t) := hF.1
  by_cases c0 : x < 0
  · refine br_t c0 (h0 (fun a ha e => ?_))
    rw [e] at c0
    exact absurd c0 (nI_pos (by omega))
  · refine br_f c0 ?_
    rw [e5]
    rcases pk_ix x (n := tn t) (by omega) with c | c | ⟨a, ha, e⟩
    · exact absurd c c0
    · refine br_t c (h0 (fun a ha e => ?_))
      rw [e, nI_leI (by omega) (by omega)] at c
      omega
    · refine br_f (fun c => ?_) (h1 a ha e)
      rw [e, nI_leI (by omega) (by omega)] at c
      omega
def isTwo (n : Nat) (x y : Int32) : Prop := ∃ a b, a < n ∧ b < n ∧ a ≠ b ∧ x = nI a ∧ y = nI b
theorem nI_inj8 {a b : Nat} (ha : a < 1000) (hb : b < 1000) : nI a = nI b ↔ a = b := nI_eq (by omega) (by omega)
theorem s_areTwo {F : St} {t : TV} {x y : Int32} {Q : Int32 → St → Prop} (hF : absF F t) (ht : okT t) (h1 : ∀ a b, a < tn t → b < tn t → a ≠ b → x = nI a → y = nI b → Q 1 F) (h0 : ¬ isTwo (tn t) x y → Q 0 F) : wp_X2_areTwo F x y Q := by
  unfold wp_X2_areTwo
  have hn := ht.1
  refine s_isThere hF ht (fun a ha ea => br_f (by decide) (s_isThere hF ht (fun b hb eb => br_f (by decide) ?_) (fun hb => br_t rfl (h0 ?_)))) (fun ha => br_t rfl (h0 ?_))
  · by_cases c : x = y
    · refine br_t c (h0 ?_)
      rintro ⟨p, q, h1, h2, h3, h4, h5⟩
      rw [h4, h5, nI_inj8 (by omega) (by omega)] at c
      exact h3 c
    · refine br_f c (h1 a b ha hb (fun e => c ?_) ea eb)
      rw [ea, eb, e]
  · rintro ⟨p, q, h1, h2, h3, h4, h5⟩
    exact hb q h2 h5
  · rintro ⟨p, q, h1, h2, h3, h4, h5⟩
    exact ha p h1 h4
theorem s7_areTwo {Y : St} {t : TV} {x y : Int32} {Q : Int32 → St → Prop} (hF : absF (flM Y) t) (ht : okT t) (h1 : ∀ a b, a < tn t → b < tn t → a ≠ b → x = nI a → y = nI b → Q 1 Y) (h0 : ¬ isTwo (tn t) x y → Q 0 Y) : wp_X7_areTwo Y x y Q := by
  unfold wp_X7_areTwo
  have hn := ht.1
  refine s7_isDancer hF ht (fun a ha ea => br_f (by decide) (s7_isDancer hF ht (fun b hb eb => br_f (by decide) ?_) (fun hb => br_t rfl (h0 ?_)))) (fun ha => br_t rfl (h0 ?_))
  · by_cases c : x = y
    · refine br_t c (h0 ?_)
      rintro ⟨p, q, h1, h2, h3, h4, h5⟩
      rw [h4, h5, nI_inj8 (by omega) (by omega)] at c
      exact h3 c
    · refine br_f c (h1 a b ha hb (fun e => c ?_) ea eb)
      rw [ea, eb, e]
  · rintro ⟨p, q, h1, h2, h3, h4, h5⟩
    exact hb q h2 h5
  · rintro ⟨p, q, h1, h2, h3, h4, h5⟩
    exact ha p h1 h4
/-- two who are there -/
theorem s_areTwoN {F : St} {t : TV} {a b : Nat} {Q : Int32 → St → Prop} (hF : absF F t) (ht : okT t) (ha : a < tn t) (hb : b < tn t) (hab : a ≠ b) (h : Q 1 F) : wp_X2_areTwo F (nI a) (nI b) Q :=
  s_areTwo hF ht (fun _ _ _ _ _ _ _ => h) (fun c => absurd ⟨a, b, ha, hb, hab, rfl, rfl⟩ c)
theorem s7_areTwoN {Y : St} {t : TV} {a b : Nat} {Q : Int32 → St → Prop} (hF : absF (flM Y) t) (ht : okT t) (ha : a < tn t) (hb : b < tn t) (hab : a ≠ b) (h : Q 1 Y) : wp_X7_areTwo Y (nI a) (nI b) Q :=
  s7_areTwo hF ht (fun _ _ _ _ _ _ _ => h) (fun c => absurd ⟨a, b, ha, hb, hab, rfl, rfl⟩ c)
/-! have danced -/
theorem s_haveDanced {F : St} {t : TV} {a b : Nat} {Q : Int32 → St → Prop} (hF : absF F t) (ht : okT t) (ha : a < tn t) (hb : b < 31) (h : Q (b2i (te t a b)) F) : wp_X2_haveDanced F (nI a) (nI b) Q := by
  have hn := ht.1
  refine ⟨vp_in_nI (by omega) (by omega), ?_⟩
  rw [nI_clamp (by omega)]
  refine s_hasBit hb ⟨b2i_bz _, ?_⟩
  rw [hF.2.2.2.2.2 a ha b]
  exact h
theorem s7_haveDanced {Y : St} {t : TV} {a b : Nat} {Q : Int32 → St → Prop} (hF : absF (flM Y) t) (ht : okT t) (ha : a < tn t) (hb : b < 31) (h : Q (b2i (te t a b)) Y) : wp_X7_haveDanced Y (nI a) (nI b) Q := by
  have hn := ht.1
  have e4 : bt (Y.2 4 a) b = te t a b := hF.2.2.2.2.2 a ha b
  refine ⟨vp_in_nI (by omega) (by omega), ?_⟩
  rw [nI_clamp (by omega), b_sel hb, e4]
  cases c : te t a b
  · rw [c] at h
    exact bn_t (by decide) h
  · rw [c] at h
    exact bn_f rfl h
/-! cousins of one figure -/
def csn (t : TV) (a b : Nat) : Bool := decide (tk t a = 3) && (decide (tk t b = 3) && decide (tg t a = tg t b))
theorem csn_comm (t : TV) (a b : Nat) : csn t a b = csn t b a := by
  unfold csn
  by_cases h1 : tk t a = 3 <;> by_cases h2 : tk t b = 3 <;> by_cases h3 : tg t a = tg t b <;> simp [h1, h2, h3]
  · exact fun e => h3 e.symm
theorem s_cousins {F : St} {t : TV} {a b : Nat} {Q : Int32 → St → Prop} (hF : absF F t) (ht : okT t) (ha : a < tn t) (hb : b < tn t) (h : Q (b2i (csn t a b)) F) : wp_X2_areCousinsOfOneFigure F (nI a) (nI b) Q := by
  have hn := ht.1
  have k1 := ht.2.2.1 a
  have k2 := ht.2.2.1 b
  have g1 := ht.2.2.2.1 a
  have g2 := ht.2.2.2.1 b
  have hva : vp_in (nI a) 8 := vp_in_nI (by omega) (by omega)
  have hvb : vp_in (nI b) 8 := vp_in_nI (by omega) (by omega)
  unfold wp_X2_areCousinsOfOneFigure
  rw [nI_clamp (n := a) (by omega), nI_clamp (n := b) (by omega), hF.2.2.1 a ha, hF.2.2.1 b hb, hF.2.2.2.1 a ha, hF.2.2.2.1 b hb]
  refine ⟨hva, ?_⟩
  by_cases c1 : tk t a = 3
  · refine bn_f (by rw [c1]; rfl) ⟨hvb, ?_⟩
    by_cases c2 : tk t b = 3
    · refine bn_f (by rw [c2]; rfl) ⟨hva, hvb, ?_⟩
      by_cases c3 : tg t a = tg t b
      · exact bn_f (by rw [c3]) (by simpa [csn, c1, c2, c3, b2i] using h)
      · exact bn_t (fun e => c3 ((nI_inj8 (by omega) (by omega)).mp e)) (by simpa [csn, c1, c2, c3, b2i] using h)
    · exact bn_t (fun e => c2 ((nI_inj8 (b := 3) (by omega) (by omega)).mp e)) (by simpa [csn, c1, c2, b2i] using h)
  · exact bn_t (fun e => c1 ((nI_inj8 (b := 3) (by omega) (by omega)).mp e)) (by simpa [csn, c1, b2i] using h)
theorem s7_cousins {Y : St} {t : TV} {a b : Nat} {Q : Int32 → St → Prop} (hF : absF (flM Y) t) (ht : okT t) (ha : a < tn t) (hb : b < tn t) (h : Q (b2i (csn t a b)) Y) : wp_X7_areCousins Y (nI a) (nI b) Q := by
  have hn := ht.1
  have k1 := ht.2.2.1 a
  have k2 := ht.2.2.1 b
  have g1 := ht.2.2.2.1 a
  have g2 := ht.2.2.2.1 b
  have hva : vp_in (nI a) 8 := vp_in_nI (by omega) (by omega)
  have hvb : vp_in (nI b) 8 := vp_in_nI (by omega) (by omega)
  have f1 : Y.2 1 a = nI (tk t a) := hF.2.2.1 a ha
  have f2 : Y.2 1 b = nI (tk t b) := hF.2.2.1 b hb
  have f3 : Y.2 2 a = nI (tg t a) := hF.2.2.2.1 a ha
  have f4 : Y.2 2 b = nI (tg t b) := hF.2.2.2.1 b hb
  unfold wp_X7_areCousins
  rw [nI_clamp (n := a) (by omega), nI_clamp (n := b) (by omega), f1, f2, f3, f4]
  refine ⟨hva, ?_⟩
  by_cases c1 : tk t a = 3
  · refine bn_f (by rw [c1]; rfl) ⟨hvb, ?_⟩
    by_cases c2 : tk t b = 3
    · refine bn_f (by rw [c2]; rfl) ⟨hva, hvb, ?_⟩
      by_cases c3 : tg t a = tg t b
      · exact bn_f (by rw [c3]) (by simpa [csn, c1, c2, c3, b2i] using h)
      · exact bn_t (fun e => c3 ((nI_inj8 (by omega) (by omega)).mp e)) (by simpa [csn, c1, c2, c3, b2i] using h)
    · exact bn_t (fun e => c2 ((nI_inj8 (b := 3) (by omega) (by omega)).mp e)) (by simpa [csn, c1, c2, b2i] using h)
  · exact bn_t (fun e => c1 ((nI_inj8 (b := 3) (by omega) (by omega)).mp e)) (by simpa [csn, c1, b2i] using h)
/-! willing -/
def fr (t : TV) (x : Nat) : Bool := !decide (nI (tg t x) ≤ tb t x)
def ot (t : TV) (x a b : Nat) : Bool := !decide (tg t x = a) && !decide (tg t x = b)
def nxt (x a : Nat) : Bool := decide (x = a + 1) || decide (a = x + 1)
def wil (t : TV) (x a b : Nat) : Bool :=
  if tk t x = 1 then fr t x else if tk t x = 2 then ot t x a b else if tk t x = 4 then fr t x && (nxt x a || nxt x b) else if tk t x = 5 then ot t x a b && decide (3 ≤ cnt (te t x) 10) else true
theorem s_isNextTo {x a : Nat} (hx : x < 1000) (ha : a < 1000) {Q : Int32 → Prop} (h : Q (b2i (nxt x a))) : wp_X2_isNextTo (nI x) (nI a) Q := by
  unfold wp_X2_isNextTo
  by_cases c1 : x = a + 1
  · exact br_t ((nI_sub1 hx ha).mpr c1) (by simpa [nxt, c1, b2i] using h)
  · refine br_f (fun e => c1 ((nI_sub1 hx ha).mp e)) ?_
    by_cases c2 : a = x + 1
    · exact bn_f ((nI_sub1 ha hx).mpr c2) (by simpa [nxt, c2, b2i] using h)
    · exact bn_t (fun e => c2 ((nI_sub1 ha hx).mp e)) (by simpa [nxt, c1, c2, b2i] using h)
theorem cnt_te {F : St} {t : TV} (hF : absF F t) {x : Nat} (hx : x < tn t) : cnt (bt (F.2 5 x)) 10 = cnt (te t x) 10 := cnt_congr (fun i _ => hF.2.2.2.2.2 x hx i)
theorem s_isWilling_47 {F : St} {t : TV} {x a b : Nat} {Q : Int32 → St → Prop} (hF : absF F t) (ht : okT t) (hx : x < tn t) (ha : a < tn t) (hb : b < tn t) (h : Q (b2i (wil t x a b)) F) : wp_X2_isWilling_47 (nI x) (nI a) (nI b) Q F (b2i (fr t x)) (b2i (ot t x a b)) := by
  have hn := ht.1
  have hk := ht.2.2.1 x
  have ek := hF.2.2.1 x hx
  have hvx : vp_in (nI x) 8 := vp_in_nI (by omega) (by omega)
  unfold wp_X2_isWilling_47
  rw [nI_clamp (n := x) (by omega), ek]
  refine ⟨hvx, ?_⟩
  rcases (show tk t x = 0 ∨ tk t x = 1 ∨ tk t x = 2 ∨ tk t x = 3 ∨ tk t x = 4 ∨ tk t x = 5 by omega) with e | e | e | e | e | e <;> rw [e]
  · exact br_f (by decide) (br_f (by decide) (br_f (by decide) (br_f (by decide) (by simpa [wil, e, b2i] using h))))
  · exact br_t rfl ⟨b2i_bz _, by simpa [wil, e] using h⟩
  · exact br_f (by decide) (br_t rfl ⟨b2i_bz _, by simpa [wil, e] using h⟩)
  · exact br_f (by decide) (br_f (by decide) (br_f (by decide) (br_f (by decide) (by simpa [wil, e, b2i] using h))))
  · refine br_f (by decide) (br_f (by decide) (br_t rfl (bb (fun c => by simpa [wil, e, c, b2i] using h) (fun c => s_isNextTo (by omega) (by omega) (bb' (fun d => by simpa [wil, e, c, d, b2i] using h) (fun d => s_isNextTo (by omega) (by omega) (bb (fun f => by simpa [wil, e, c, d, f, b2i] using h) (fun f => by simpa [wil, e, c, d, f, b2i] using h))))))))
  · refine br_f (by decide) (br_f (by decide) (br_f (by decide) (br_t rfl (bb (fun c => by simpa [wil, e, c, b2i] using h) (fun c => ⟨hvx, s_bitCount (fun i hi => by rw [hF.2.2.2.2.2 x hx i]; exact ht.big (by omega)) ?_⟩)))))
    rw [cnt_te hF hx]
    have hc := cnt_le (te t x) 10
    by_cases d : 3 ≤ cnt (te t x) 10
    · exact br_f (fun z => by rw [show (3 : Int32) = nI 3 from rfl, nI_ltI (by omega) (by omega)] at z; omega) (by simpa [wil, e, c, d, b2i] using h)
    · exact br_t (by rw [show (3 : Int32) = nI 3 from rfl, nI_ltI (by omega) (by omega)]; omega) (by simpa [wil, e, c, d, b2i] using h)
theorem s_isWilling {F : St} {t : TV} {x a b : Nat} {Q : Int32 → St → Prop} (hF : absF F t) (ht : okT t) (hx : x < tn t) (ha : a < tn t) (hb : b < tn t) (h : Q (b2i (wil t x a b)) F) : wp_X2_isWilling F (nI x) (nI a) (nI b) Q := by
  have hn := ht.1
  have hg := ht.2.2.2.1 x
  have hvx : vp_in (nI x) 8 := vp_in_nI (by omega) (by omega)
  have h47 := s_isWilling_47 hF ht hx ha hb h
  have h20 : wp_X2_isWilling_20 (nI x) (nI a) (nI b) Q F (b2i (fr t x)) := by
    unfold wp_X2_isWilling_20
    rw [nI_clamp (n := x) (by omega), hF.2.2.2.1 x hx]
    refine ⟨hvx, ?_⟩
    by_cases c1 : tg t x = a
    · refine br_t (by rw [c1]) ?_
      rw [show ot t x a b = false by simp [ot, c1]] at h47
      exact h47
    · refine br_f (fun e => c1 ((nI_inj8 (by omega) (by omega)).mp e)) ⟨hvx, ?_⟩
      by_cases c2 : tg t x = b
      · refine br_t (by rw [c2]) ?_
        rw [show ot t x a b = false by simp [ot, c2]] at h47
        exact h47
      · refine br_f (fun e => c2 ((nI_inj8 (by omega) (by omega)).mp e)) ?_
        rw [show ot t x a b = true by simp [ot, c1, c2]] at h47
        exact h47
  unfold wp_X2_isWilling
  rw [nI_clamp (n := x) (by omega), hF.2.2.2.1 x hx, hF.2.2.2.2.1 x hx]
  refine ⟨hvx, hvx, ?_⟩
  by_cases c : nI (tg t x) ≤ tb t x
  · refine br_t c ?_
    rw [show fr t x = false by simp [fr, c]] at h20
    exact h20
  · refine br_f c ?_
    rw [show fr t x = true by simp [fr, c]] at h20
    exact h20
