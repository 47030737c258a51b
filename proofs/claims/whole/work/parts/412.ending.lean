/-! the ending: rounds and their end -/
abbrev EE : Type := Nat → Nat → Bool
abbrev EP : Type := Nat × Nat × (Nat → Bool) × EE
def okE (n : Nat) (E : EE) : Prop := (∀ i j, E i j = true → i < n ∧ j < n ∧ i ≠ j) ∧ ∀ i j, E i j = E j i
def okP (P : EP) : Prop := P.1 ≤ 8 ∧ P.2.1 ≤ 2 ∧ ∀ a b, P.2.2.2 a b = P.2.2.2 b a
def nd (l : Nat) : Nat := if l = 1 then 2 else 1
def cb (l : Nat) (h : Nat → Bool) (E : EE) (a b x : Nat) : Bool := E a x && (E b x && (h x && (!decide (l = 2) || (decide (x < a) && decide (x < b)))))
def cc (P : EP) (E : EE) (a b : Nat) : Bool := P.2.2.2 a b || decide (nd P.2.1 ≤ cnt (cb P.2.1 P.2.2.1 E a b) 10)
def nw (P : EP) (E : EE) (a b : Nat) : Bool := decide (a < P.1) && (decide (b < P.1) && (!decide (a = b) && (!E a b && cc P E a b)))
def rs (P : EP) (E : EE) : EE := fun a b => E a b || nw P E a b
def an (P : EP) (E : EE) : Bool := decide (0 < cnt (fun i => decide (0 < cnt (nw P E i) 8)) 8)
def it (P : EP) (E : EE) : Nat → EE
  | 0 => E
  | k + 1 => rs P (it P E k)
theorem it_s (P : EP) (E : EE) (k : Nat) : it P E (k + 1) = rs P (it P E k) := rfl
theorem it_0 (P : EP) (E : EE) : it P E 0 = E := rfl
theorem nw_iff {P : EP} {E : EE} {a b : Nat} : nw P E a b = true ↔ a < P.1 ∧ b < P.1 ∧ a ≠ b ∧ E a b = false ∧ cc P E a b = true := by
  unfold nw; simp
theorem nw_f {P : EP} {E : EE} {a b : Nat} (h : E a b = true) : nw P E a b = false := by simp [nw, h]
theorem an_iff {P : EP} {E : EE} (hP : okP P) : an P E = true ↔ ∃ a b, nw P E a b = true := by
  have hn := hP.1
  unfold an
  rw [decide_eq_true_eq]
  constructor
  · intro h
    obtain ⟨i, _, hi⟩ := cnt_pos h
    rw [decide_eq_true_eq] at hi
    obtain ⟨j, _, hj⟩ := cnt_pos hi
    exact ⟨i, j, hj⟩
  · rintro ⟨a, b, h⟩
    have g := nw_iff.mp h
    refine Nat.pos_of_ne_zero (fun e => ?_)
    have e1 := cnt_0.mp e a (by omega)
    rw [decide_eq_false_iff_not] at e1
    have e2 := cnt_0.mp (by omega : cnt (nw P E a) 8 = 0) b (by omega)
    rw [h] at e2; cases e2
theorem an_no {P : EP} {E : EE} (hP : okP P) (h : an P E = false) (a b : Nat) : nw P E a b = false := by
  cases c : nw P E a b
  · rfl
  · rw [(an_iff hP).mpr ⟨a, b, c⟩] at h; cases h
theorem cb_comm (l : Nat) (h : Nat → Bool) (E : EE) (a b x : Nat) : cb l h E a b x = cb l h E b a x := by
  unfold cb
  cases E a x <;> cases E b x <;> cases h x <;> cases decide (x < a) <;> cases decide (x < b) <;> simp
theorem cc_comm {P : EP} (hP : okP P) (E : EE) (a b : Nat) : cc P E a b = cc P E b a := by
  unfold cc
  rw [hP.2.2 a b, cnt_congr (fun i _ => cb_comm P.2.1 P.2.2.1 E a b i)]
theorem nw_comm {P : EP} (hP : okP P) {E : EE} (hE : okE P.1 E) (a b : Nat) : nw P E a b = nw P E b a := by
  rw [Bool.eq_iff_iff, nw_iff, nw_iff, hE.2 a b, cc_comm hP E a b]
  constructor
  · rintro ⟨h1, h2, h3, h4⟩; exact ⟨h2, h1, fun e => h3 e.symm, h4⟩
  · rintro ⟨h1, h2, h3, h4⟩; exact ⟨h2, h1, fun e => h3 e.symm, h4⟩
theorem okE.rs {P : EP} (hP : okP P) {E : EE} (hE : okE P.1 E) : okE P.1 (rs P E) := by
  refine ⟨fun i j h => ?_, fun i j => ?_⟩
  · have h' : (E i j || nw P E i j) = true := h
    rw [Bool.or_eq_true] at h'
    rcases h' with q | q
    · exact hE.1 i j q
    · have := nw_iff.mp q; exact ⟨this.1, this.2.1, this.2.2.1⟩
  · show (E i j || nw P E i j) = (E j i || nw P E j i)
    rw [hE.2 i j, nw_comm hP hE]
theorem okE.it {P : EP} (hP : okP P) {E : EE} (hE : okE P.1 E) : ∀ k, okE P.1 (it P E k)
  | 0 => hE
  | k + 1 => (okE.it hP hE k).rs hP
theorem rs_sub {P : EP} {E : EE} {a b : Nat} (h : E a b = true) : rs P E a b = true := by unfold rs; rw [h]; rfl
theorem it_mono {P : EP} {E : EE} {a b j : Nat} (h : it P E j a b = true) : ∀ m, it P E (j + m) a b = true
  | 0 => h
  | m + 1 => rs_sub (it_mono h m)
theorem it_mono' {P : EP} {E : EE} {a b j k : Nat} (hk : k ≤ j) (h : it P E j a b = false) : it P E k a b = false := by
  cases c : it P E k a b
  · rfl
  · have := it_mono c (j - k)
    rw [show k + (j - k) = j by omega, h] at this; cases this
theorem an_f {P : EP} (hP : okP P) {E : EE} (h : an P E = false) : rs P E = E := by
  funext a b
  show (E a b || nw P E a b) = E a b
  rw [an_no hP h]; simp
theorem it_stop {P : EP} (hP : okP P) {E : EE} {k : Nat} (h : an P (it P E k) = false) : ∀ m, it P E (k + m) = it P E k
  | 0 => rfl
  | m + 1 => by
    show rs P (it P E (k + m)) = _
    rw [it_stop hP h m, an_f hP h]
theorem it_stop' {P : EP} (hP : okP P) {E : EE} {k j : Nat} (h : an P (it P E k) = false) (hj : k ≤ j) : it P E j = it P E k := by
  have := it_stop hP h (j - k)
  rwa [show k + (j - k) = j by omega] at this
theorem cnt_mono {f g : Nat → Bool} : ∀ {n : Nat}, (∀ i, i < n → f i = true → g i = true) → cnt f n ≤ cnt g n
  | 0, _ => Nat.le_refl _
  | n + 1, h => by
    have ih := cnt_mono (f := f) (g := g) (n := n) (fun i hi => h i (by omega))
    rw [cnt_s, cnt_s]
    have := h n (by omega)
    by_cases c : f n = true
    · rw [if_pos c, if_pos (this c)]; omega
    · rw [if_neg c]; split <;> omega
theorem cnt_lt {f g : Nat → Bool} {k : Nat} (hf : f k = false) (hg : g k = true) : ∀ {n : Nat}, k < n → (∀ i, i < n → f i = true → g i = true) → cnt f n < cnt g n
  | 0, hk, _ => by omega
  | n + 1, hk, h => by
    rw [cnt_s, cnt_s]
    by_cases c : k = n
    · have := cnt_mono (f := f) (g := g) (n := n) (fun i hi => h i (by omega))
      rw [← c, hf, hg]
      rw [← c] at this
      simp; omega
    · have ih := cnt_lt hf hg (n := n) (by omega) (fun i hi => h i (by omega))
      have := h n (by omega)
      by_cases c : f n = true
      · rw [if_pos c, if_pos (this c)]; omega
      · rw [if_neg c]; split <;> omega
theorem cnt_all {f : Nat → Bool} : ∀ {n : Nat}, (∀ i, i < n → f i = true) → cnt f n = n
  | 0, _ => rfl
  | n + 1, h => by rw [cnt_s, cnt_all (fun i hi => h i (by omega)), if_pos (h n (by omega))]
theorem smN_lem {f g : Nat → Nat} : ∀ {n : Nat}, (∀ i, i < n → f i ≤ g i) → smN f n ≤ smN g n
  | 0, _ => Nat.le_refl _
  | n + 1, h => by
    have ih := smN_lem (f := f) (g := g) (n := n) (fun i hi => h i (by omega))
    have := h n (by omega)
    rw [smN_s, smN_s]; omega
theorem smN_lt {f g : Nat → Nat} {k : Nat} (hk : f k < g k) : ∀ {n : Nat}, k < n → (∀ i, i < n → f i ≤ g i) → smN f n < smN g n
  | 0, h, _ => by omega
  | n + 1, hn, h => by
    rw [smN_s, smN_s]
    by_cases c : k = n
    · have := smN_lem (f := f) (g := g) (n := n) (fun i hi => h i (by omega))
      rw [c] at hk; omega
    · have := smN_lt hk (n := n) (by omega) (fun i hi => h i (by omega))
      have := h n (by omega)
      omega
theorem paT_28 (f : EE) {n : Nat} (hn : n ≤ 8) : paT f n ≤ 28 := by
  have h1 : paT f n ≤ smN (fun i => i) n := smN_lem (fun i _ => cnt_le _ i)
  have h2 : ∀ n, n ≤ 8 → smN (fun i => i) n ≤ 28 := by decide
  exact Nat.le_trans h1 (h2 n hn)
theorem up_lt {P : EP} (hP : okP P) {E : EE} (hE : okE P.1 E) (h : an P E = true) : paT E P.1 < paT (rs P E) P.1 := by
  obtain ⟨a, b, g⟩ := (an_iff hP).mp h
  have key : ∀ a b, nw P E a b = true → b < a → paT E P.1 < paT (rs P E) P.1 := by
    intro a b g hab
    have q := nw_iff.mp g
    refine smN_lt (k := a) ?_ q.1 (fun i _ => cnt_mono (fun j _ z => rs_sub z))
    exact cnt_lt (k := b) q.2.2.2.1 (by show (E a b || nw P E a b) = true; rw [g]; simp) hab (fun j _ z => rs_sub z)
  have q := nw_iff.mp g
  rcases Nat.lt_or_ge b a with c | c
  · exact key a b g c
  · exact key b a (by rw [nw_comm hP hE]; exact g) (by omega)
def fin (P : EP) (E : EE) : EE := it P E 28
theorem an_fin {P : EP} (hP : okP P) {E : EE} (hE : okE P.1 E) : an P (it P E 28) = false := by
  cases c : an P (it P E 28)
  · rfl
  · have hall : ∀ k, k ≤ 28 → an P (it P E k) = true := by
      intro k hk
      cases d : an P (it P E k)
      · rw [it_stop' hP d hk, d] at c; cases c
      · rfl
    have hup : ∀ k, k ≤ 29 → k ≤ paT (it P E k) P.1 := by
      intro k
      induction k with
      | zero => intro _; exact Nat.zero_le _
      | succ k ih =>
        intro hk
        have := ih (by omega)
        have := up_lt hP (hE.it hP k) (hall k (by omega))
        rw [it_s]; omega
    have h1 := hup 29 (by omega)
    have h2 := paT_28 (it P E 29) hP.1
    omega
/-- how many rounds -/
def rc (P : EP) (E : EE) : Nat := cnt (fun k => an P (it P E k)) 28
theorem rc_at {P : EP} (hP : okP P) {E : EE} {k : Nat} (hk : k ≤ 28) (h0 : ∀ j, j < k → an P (it P E j) = true) (h : an P (it P E k) = false) : rc P E = k := by
  unfold rc
  rw [cnt_more _ hk (fun i h1 _ => ?_), cnt_all h0]
  rw [it_stop' hP h h1]; exact h
/-- the least closed one -/
theorem cb_mono {l : Nat} {h : Nat → Bool} {E F : EE} (hs : ∀ i j, E i j = true → F i j = true) {a b x : Nat} (g : cb l h E a b x = true) : cb l h F a b x = true := by
  unfold cb at g ⊢
  simp only [Bool.and_eq_true] at g ⊢
  exact ⟨hs _ _ g.1, hs _ _ g.2.1, g.2.2⟩
theorem cc_mono {P : EP} {E F : EE} (hs : ∀ i j, E i j = true → F i j = true) {a b : Nat} (g : cc P E a b = true) : cc P F a b = true := by
  unfold cc at g ⊢
  simp only [Bool.or_eq_true, decide_eq_true_eq] at g ⊢
  rcases g with g | g
  · exact Or.inl g
  · exact Or.inr (Nat.le_trans g (cnt_mono (fun i _ => cb_mono hs)))
theorem it_least {P : EP} (hP : okP P) {E F : EE} (hs : ∀ i j, E i j = true → F i j = true) (hF : an P F = false) : ∀ k a b, it P E k a b = true → F a b = true
  | 0, a, b, h => hs a b h
  | k + 1, a, b, h => by
    have ih := it_least hP hs hF k
    have h' : (it P E k a b || nw P (it P E k) a b) = true := h
    rw [Bool.or_eq_true] at h'
    rcases h' with q | q
    · exact ih a b q
    · have g := nw_iff.mp q
      have := an_no hP hF a b
      cases c : F a b
      · rw [nw_iff.mpr ⟨g.1, g.2.1, g.2.2.1, c, cc_mono ih g.2.2.2.2⟩] at this; cases this
      · rfl
theorem fin_sup {P : EP} {E : EE} {a b : Nat} (h : E a b = true) : fin P E a b = true := by
  have := it_mono (P := P) (E := E) (j := 0) h 28
  rwa [Nat.zero_add] at this
theorem fin_mono {P : EP} (hP : okP P) {E F : EE} (hF : okE P.1 F) (hs : ∀ i j, E i j = true → F i j = true) : ∀ a b, fin P E a b = true → fin P F a b = true :=
  it_least hP (fun i j h => fin_sup (hs i j h)) (an_fin hP hF) 28
theorem fin_eq {P : EP} (hP : okP P) {E F : EE} (hE : okE P.1 E) (hF : okE P.1 F) (h1 : ∀ i j, E i j = true → fin P F i j = true) (h2 : ∀ i j, F i j = true → fin P E i j = true) : fin P E = fin P F := by
  funext a b
  rw [Bool.eq_iff_iff]
  exact ⟨it_least hP h1 (an_fin hP hF) 28 a b, it_least hP h2 (an_fin hP hE) 28 a b⟩
theorem okE_add {n : Nat} {E : EE} (hE : okE n E) {a b : Nat} (ha : a < n) (hb : b < n) (hab : a ≠ b) : okE n (addE E a b) := by
  refine ⟨fun i j h => ?_, fun i j => ?_⟩
  · have h' : (E i j || ((decide (i = a) && decide (j = b)) || (decide (i = b) && decide (j = a)))) = true := h
    simp only [Bool.or_eq_true, Bool.and_eq_true, decide_eq_true_eq] at h'
    rcases h' with q | ⟨q1, q2⟩ | ⟨q1, q2⟩
    · exact hE.1 i j q
    · subst q1; subst q2; exact ⟨ha, hb, hab⟩
    · subst q1; subst q2; exact ⟨hb, ha, fun e => hab e.symm⟩
  · unfold addE
    rw [hE.2 i j]
    by_cases c1 : i = a <;> by_cases c2 : i = b <;> by_cases c3 : j = a <;> by_cases c4 : j = b <;> simp [c1, c2, c3, c4]
def remE (e : EE) (a b : Nat) : EE := fun i j => e i j && !((decide (i = a) && decide (j = b)) || (decide (i = b) && decide (j = a)))
theorem okE_rem {n : Nat} {E : EE} (hE : okE n E) (a b : Nat) : okE n (remE E a b) := by
  refine ⟨fun i j h => ?_, fun i j => ?_⟩
  · have h' : (E i j && !((decide (i = a) && decide (j = b)) || (decide (i = b) && decide (j = a)))) = true := h
    rw [Bool.and_eq_true] at h'
    exact hE.1 i j h'.1
  · unfold remE
    rw [hE.2 i j]
    by_cases c1 : i = a <;> by_cases c2 : i = b <;> by_cases c3 : j = a <;> by_cases c4 : j = b <;> simp [c1, c2, c3, c4]
theorem fin_add {P : EP} (hP : okP P) {E : EE} (hE : okE P.1 E) {a b : Nat} (ha : a < P.1) (hb : b < P.1) (hab : a ≠ b) : fin P (addE (fin P E) a b) = fin P (addE E a b) := by
  have hA := okE_add hE ha hb hab
  have hB := okE_add (hE.it hP 28) ha hb hab
  refine fin_eq hP hB hA (fun i j h => ?_) (fun i j h => fin_sup ?_)
  · unfold addE at h
    rw [Bool.or_eq_true] at h
    rcases h with q | q
    · exact fin_mono hP hA (fun i j z => by unfold addE; rw [z]; rfl) i j q
    · exact fin_sup (by unfold addE; rw [q]; simp)
  · unfold addE at h ⊢
    rw [Bool.or_eq_true] at h ⊢
    rcases h with q | q
    · exact Or.inl (fin_sup q)
    · exact Or.inr q
/-! how far a round is -/
def dn (a b i j : Nat) : Bool := decide (min i j < a) || (decide (min i j = a) && decide (max i j < b))
def PD (P : EP) (E : EE) (a b : Nat) : EE := fun i j => nw P E i j && dn a b i j
theorem dn_s {a b : Nat} (h : a < b) (i j : Nat) : dn a (b + 1) i j = (dn a b i j || ((decide (i = a) && decide (j = b)) || (decide (i = b) && decide (j = a)))) := by
  rw [Bool.eq_iff_iff]; simp only [dn, Bool.or_eq_true, Bool.and_eq_true, decide_eq_true_eq]; omega
theorem PD_t {P : EP} (hP : okP P) {E : EE} (hE : okE P.1 E) {a b : Nat} (hab : a < b) (h : nw P E a b = true) : PD P E a (b + 1) = addE (PD P E a b) a b := by
  funext i j
  show (nw P E i j && dn a (b + 1) i j) = ((nw P E i j && dn a b i j) || _)
  rw [dn_s hab]
  by_cases c1 : i = a ∧ j = b
  · rw [c1.1, c1.2, h]; simp
  · by_cases c2 : i = b ∧ j = a
    · rw [c2.1, c2.2, nw_comm hP hE, h]; simp
    · have : ((decide (i = a) && decide (j = b)) || (decide (i = b) && decide (j = a))) = false := by
        rw [Bool.eq_false_iff]
        simp only [ne_eq, Bool.or_eq_true, Bool.and_eq_true, decide_eq_true_eq]
        exact fun z => z.elim c1 c2
      rw [this]; simp
theorem PD_f {P : EP} (hP : okP P) {E : EE} (hE : okE P.1 E) {a b : Nat} (hab : a < b) (h : nw P E a b = false) : PD P E a (b + 1) = PD P E a b := by
  funext i j
  show (nw P E i j && dn a (b + 1) i j) = (nw P E i j && dn a b i j)
  rw [dn_s hab]
  by_cases c1 : i = a ∧ j = b
  · rw [c1.1, c1.2, h]; simp
  · by_cases c2 : i = b ∧ j = a
    · rw [c2.1, c2.2, nw_comm hP hE, h]; simp
    · have : ((decide (i = a) && decide (j = b)) || (decide (i = b) && decide (j = a))) = false := by
        rw [Bool.eq_false_iff]
        simp only [ne_eq, Bool.or_eq_true, Bool.and_eq_true, decide_eq_true_eq]
        exact fun z => z.elim c1 c2
      rw [this]; simp
theorem PD_r (P : EP) (E : EE) (a : Nat) : PD P E a P.1 = PD P E (a + 1) (a + 1 + 1) := by
  funext i j
  show (nw P E i j && dn a P.1 i j) = (nw P E i j && dn (a + 1) (a + 1 + 1) i j)
  cases c : nw P E i j
  · rfl
  · have := nw_iff.mp c
    rw [Bool.true_and, Bool.true_and, Bool.eq_iff_iff]
    simp only [dn, Bool.or_eq_true, Bool.and_eq_true, decide_eq_true_eq]; omega
theorem PD_0 (P : EP) (E : EE) : PD P E 0 (0 + 1) = fun _ _ => false := by
  funext i j
  show (nw P E i j && dn 0 1 i j) = false
  cases c : nw P E i j
  · rfl
  · have := nw_iff.mp c
    rw [Bool.true_and, Bool.eq_false_iff]
    simp only [dn, ne_eq, Bool.or_eq_true, Bool.and_eq_true, decide_eq_true_eq]; omega
theorem PD_n (P : EP) (E : EE) (b : Nat) : PD P E P.1 b = nw P E := by
  funext i j
  show (nw P E i j && dn P.1 b i j) = nw P E i j
  cases c : nw P E i j
  · rfl
  · have := nw_iff.mp c
    rw [Bool.true_and]
    simp only [dn, Bool.or_eq_true, Bool.and_eq_true, decide_eq_true_eq]; omega
/-- whether any came so far -/
def fg (P : EP) (E : EE) (a b : Nat) (f : Bool) : Prop := (f = true → an P E = true) ∧ ∀ i j, PD P E a b i j = true → f = true
theorem fg_0 (P : EP) (E : EE) : fg P E 0 (0 + 1) false := ⟨fun h => absurd h (by decide), fun i j h => (by rw [PD_0] at h; exact h)⟩
theorem fg_n {P : EP} (hP : okP P) {E : EE} {b : Nat} {f : Bool} (h : fg P E P.1 b f) : f = an P E := by
  rw [Bool.eq_iff_iff]
  refine ⟨h.1, fun g => ?_⟩
  obtain ⟨i, j, q⟩ := (an_iff hP).mp g
  exact h.2 i j (by rw [PD_n]; exact q)
theorem fg_t {P : EP} (hP : okP P) {E : EE} {a b : Nat} (h : nw P E a b = true) : fg P E a (b + 1) true := ⟨fun _ => (an_iff hP).mpr ⟨a, b, h⟩, fun _ _ _ => rfl⟩
theorem fg_f {P : EP} (hP : okP P) {E : EE} (hE : okE P.1 E) {a b : Nat} (hab : a < b) {f : Bool} (h : nw P E a b = false) (g : fg P E a b f) : fg P E a (b + 1) f := ⟨g.1, fun i j z => g.2 i j (by rw [PD_f hP hE hab h] at z; exact z)⟩
theorem fg_r {P : EP} {E : EE} {a : Nat} {f : Bool} (g : fg P E a P.1 f) : fg P E (a + 1) (a + 1 + 1) f := ⟨g.1, fun i j z => g.2 i j (by rw [← PD_r] at z; exact z)⟩
/-- an array of masks -/
def ar (S : St) (k : Nat) (E : EE) (n : Nat) : Prop := ∀ i, i < n → ∀ j, bt (S.2 k i) j = E i j
theorem ar.add {S : St} {k n : Nat} {E : EE} (h : ar S k E n) (hn : n ≤ 8) {a b : Nat} (ha : a < n) (hb : b < n) (hab : a ≠ b) :
    ar (sA (sA S k a (S.2 k a ||| b1 b)) k b ((sA S k a (S.2 k a ||| b1 b)).2 k b ||| b1 a)) k (addE E a b) n := by
  intro i hi j
  rw [sA_s, sA_s]
  unfold addE
  by_cases c1 : i = b
  · subst c1
    rw [upd_s, upd_n _ _ (fun e => hab e.symm), b_or, h i hi j, b_b1 (by omega)]
    have : ¬ i = a := fun e => hab e.symm
    simp [this]
  · rw [upd_n _ _ c1]
    by_cases c2 : i = a
    · subst c2
      rw [upd_s, b_or, h i hi j, b_b1 (by omega)]
      simp [c1]
    · rw [upd_n _ _ c2, h i hi j]
      simp [c1, c2]
theorem b_andnot {x : Int32} {b : Nat} (hb : b < 32) (j : Nat) : bt (x &&& (b1 b ^^^ (-1))) j = (bt x j && !decide (j = b)) := by
  rw [b_and]
  rcases Nat.lt_or_ge j 32 with q | q
  · rw [b_not hb q]
  · rw [b_big q]; rfl
theorem ar.rem {S : St} {k n : Nat} {E : EE} (h : ar S k E n) (hn : n ≤ 8) {a b : Nat} (ha : a < n) (hb : b < n) (hab : a ≠ b) :
    ar (sA (sA S k a (S.2 k a &&& (b1 b ^^^ (-1)))) k b ((sA S k a (S.2 k a &&& (b1 b ^^^ (-1)))).2 k b &&& (b1 a ^^^ (-1)))) k (remE E a b) n := by
  intro i hi j
  rw [sA_s, sA_s]
  unfold remE
  by_cases c1 : i = b
  · subst c1
    rw [upd_s, upd_n _ _ (fun e => hab e.symm), b_andnot (by omega), h i hi j]
    have : ¬ i = a := fun e => hab e.symm
    simp [this]
  · rw [upd_n _ _ c1]
    by_cases c2 : i = a
    · subst c2
      rw [upd_s, b_andnot (by omega), h i hi j]
      simp [c1]
    · rw [upd_n _ _ c2, h i hi j]
      simp [c1, c2]
