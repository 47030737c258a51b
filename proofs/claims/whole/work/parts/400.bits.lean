/-! bits: the family 'Int32 by its bits' of kit/laws/BITS.to-paste, then masks and counts -/
def bt (x : Int32) (i : Nat) : Bool := x.toBitVec.getLsbD i
theorem b_ext {x y : Int32} (h : ∀ i, i < 32 → bt x i = bt y i) : x = y := Int32.toBitVec_inj.mp (BitVec.eq_of_getLsbD_eq (fun i hi => h i hi))
theorem b_or (x y : Int32) (i : Nat) : bt (x ||| y) i = (bt x i || bt y i) := by unfold bt; rw [Int32.toBitVec_or, BitVec.getLsbD_or]
theorem b_and (x y : Int32) (i : Nat) : bt (x &&& y) i = (bt x i && bt y i) := by unfold bt; rw [Int32.toBitVec_and, BitVec.getLsbD_and]
theorem b_xor (x y : Int32) (i : Nat) : bt (x ^^^ y) i = (bt x i ^^ bt y i) := by unfold bt; rw [Int32.toBitVec_xor, BitVec.getLsbD_xor]
theorem b_big {x : Int32} {i : Nat} (h : 32 ≤ i) : bt x i = false := BitVec.getLsbD_of_ge _ _ h
theorem b_m1 : ∀ i, i < 32 → bt (-1) i = true := by decide +kernel
theorem b_0 (i : Nat) : bt 0 i = false := BitVec.getLsbD_zero
theorem s_l : ∀ n, n < 32 → ((nI n &&& 31).toBitVec.smod 32).toNat = n := by decide +kernel
theorem b_shl (n : Nat) (hn : n < 32) (x : Int32) {i : Nat} (hi : i < 32) : bt (x <<< (nI n &&& 31)) i = (decide (n ≤ i) && bt x (i - n)) := by
  unfold bt
  rw [Int32.toBitVec_shiftLeft]
  show (x.toBitVec <<< ((nI n &&& 31).toBitVec.smod 32).toNat).getLsbD i = _
  rw [s_l n hn, BitVec.getLsbD_shiftLeft]
  rcases Nat.lt_or_ge i n with h | h
  · simp [h, Nat.not_le.mpr h]
  · simp [hi, h, Nat.not_lt.mpr h]
theorem b_sshr (n : Nat) (hn : n < 32) (x : Int32) {i : Nat} (hi : i < 32) : bt (x >>> (nI n &&& 31)) i = if n + i < 32 then bt x (n + i) else bt x 31 := by
  unfold bt
  rw [Int32.toBitVec_shiftRight]
  show (x.toBitVec.sshiftRight ((nI n &&& 31).toBitVec.smod 32).toNat).getLsbD i = _
  rw [s_l n hn, BitVec.getLsbD_sshiftRight, BitVec.msb_eq_getLsbD_last]
  simp [hi]
theorem b_1 : ∀ i, bt 1 i = decide (i = 0) := by
  intro i
  rcases Nat.lt_or_ge i 32 with h | h
  · exact (by decide +kernel : ∀ i, i < 32 → bt 1 i = decide (i = 0)) i h
  · rw [b_big h]; simp; omega
/-- one bit: 1 << j -/
def b1 (j : Nat) : Int32 := (1 : Int32) <<< (nI j &&& 31)
theorem b_b1 {j : Nat} (hj : j < 32) (i : Nat) : bt (b1 j) i = decide (i = j) := by
  rcases Nat.lt_or_ge i 32 with h | h
  · unfold b1
    rw [b_shl j hj 1 h, b_1]
    by_cases e : i = j
    · simp [e]
    · by_cases e2 : j ≤ i
      · simp [e, e2]; omega
      · simp [e, e2]
  · rw [b_big h]; simp; omega
theorem b_not {j : Nat} (hj : j < 32) {i : Nat} (hi : i < 32) : bt (b1 j ^^^ (-1)) i = !decide (i = j) := by
  rw [b_xor, b_b1 hj, b_m1 i hi]; simp
/-- the bit that is asked for: (x >> j) & 1 -/
def b2i (b : Bool) : Int32 := if b then 1 else 0
theorem b2i_t : b2i true = 1 := rfl
theorem b2i_f : b2i false = 0 := rfl
theorem b2i_bz (b : Bool) : bz (b2i b) := by cases b; exact Or.inl rfl; exact Or.inr rfl
theorem b_sel {j : Nat} (hj : j < 31) (x : Int32) : (x >>> (nI j &&& 31)) &&& 1 = b2i (bt x j) := by
  refine b_ext (fun i hi => ?_)
  rw [b_and, b_1, b_sshr j (by omega) x hi]
  by_cases e : i = 0
  · subst e
    have : j + 0 < 32 := by omega
    rw [if_pos this]
    cases h : bt x j
    · simp [h, b2i, b_0]
    · simp [h, b2i, b_1]
  · cases h : bt x j
    · simp [e, b2i, b_0]
    · simp [e, b2i, b_1]
theorem b2i_0 (b : Bool) : (b2i b = 0) ↔ b = false := by cases b <;> simp [b2i]
theorem b2i_1 (b : Bool) : (b2i b = 1) ↔ b = true := by cases b <;> simp [b2i]
theorem b2i_i {a b : Bool} : b2i a = b2i b ↔ a = b := by cases a <;> cases b <;> simp [b2i]
/-- a mask of the places below n where f holds -/
def mkI (f : Nat → Bool) : Nat → Int32
  | 0 => 0
  | n + 1 => if f n then mkI f n ||| b1 n else mkI f n
theorem mkI_s (f : Nat → Bool) (n : Nat) : mkI f (n + 1) = if f n then mkI f n ||| b1 n else mkI f n := rfl
theorem b_mkI (f : Nat → Bool) (i : Nat) : ∀ n, n ≤ 32 → bt (mkI f n) i = (decide (i < n) && f i)
  | 0, _ => by simp [mkI, b_0]
  | n + 1, h => by
    have ih := b_mkI f i n (by omega)
    unfold mkI
    by_cases c : f n = true
    · rw [if_pos c, b_or, ih, b_b1 (by omega)]
      by_cases e : i = n
      · subst e; simp [c]
      · have : decide (i < n + 1) = decide (i < n) := by simp; omega
        simp [e, this]
    · rw [if_neg c, ih]
      by_cases e : i = n
      · subst e; simp at c; simp [c]
      · have : decide (i < n + 1) = decide (i < n) := by simp; omega
        simp [this]
theorem mkI_congr {f g : Nat → Bool} : ∀ {n : Nat}, (∀ i, i < n → f i = g i) → mkI f n = mkI g n
  | 0, _ => rfl
  | n + 1, h => by unfold mkI; rw [mkI_congr (fun i hi => h i (by omega)), h n (by omega)]
theorem mkI_more (f : Nat → Bool) {m : Nat} : ∀ {n : Nat}, m ≤ n → (∀ i, m ≤ i → i < n → f i = false) → mkI f n = mkI f m
  | 0, h, _ => by have : m = 0 := by omega
                  rw [this]
  | n + 1, h, hf => by
    by_cases e : m = n + 1
    · rw [e]
    · rw [mkI_s, if_neg (by rw [hf n (by omega) (by omega)]; decide)]
      exact mkI_more f (by omega) (fun i h1 h2 => hf i h1 (by omega))
theorem mkI_0 {f : Nat → Bool} {n : Nat} (hn : n ≤ 32) : mkI f n = 0 ↔ ∀ i, i < n → f i = false := by
  constructor
  · intro h i hi
    have := b_mkI f i n hn
    rw [h, b_0] at this
    simpa [hi] using this.symm
  · intro h
    rw [mkI_more f (m := 0) (Nat.zero_le n) (fun i _ h2 => h i h2)]
    rfl
/-- how many below n -/
def cnt (f : Nat → Bool) : Nat → Nat
  | 0 => 0
  | n + 1 => cnt f n + (if f n then 1 else 0)
theorem cnt_s (f : Nat → Bool) (n : Nat) : cnt f (n + 1) = cnt f n + (if f n then 1 else 0) := rfl
theorem cnt_le (f : Nat → Bool) : ∀ n, cnt f n ≤ n
  | 0 => Nat.le_refl 0
  | n + 1 => by have := cnt_le f n; unfold cnt; split <;> omega
theorem cnt_congr {f g : Nat → Bool} : ∀ {n : Nat}, (∀ i, i < n → f i = g i) → cnt f n = cnt g n
  | 0, _ => rfl
  | n + 1, h => by unfold cnt; rw [cnt_congr (fun i hi => h i (by omega)), h n (by omega)]
theorem cnt_more (f : Nat → Bool) {m : Nat} : ∀ {n : Nat}, m ≤ n → (∀ i, m ≤ i → i < n → f i = false) → cnt f n = cnt f m
  | 0, h, _ => by have : m = 0 := by omega
                  rw [this]
  | n + 1, h, hf => by
    by_cases e : m = n + 1
    · rw [e]
    · rw [cnt_s, if_neg (by rw [hf n (by omega) (by omega)]; decide), Nat.add_zero]
      exact cnt_more f (by omega) (fun i h1 h2 => hf i h1 (by omega))
theorem cnt_0 {f : Nat → Bool} : ∀ {n : Nat}, cnt f n = 0 ↔ ∀ i, i < n → f i = false
  | 0 => ⟨fun _ i h => absurd h (Nat.not_lt_zero i), fun _ => rfl⟩
  | n + 1 => by
    have ih := cnt_0 (f := f) (n := n)
    unfold cnt
    constructor
    · intro h i hi
      by_cases c : f n = true
      · rw [if_pos c] at h; omega
      · rw [if_neg c] at h
        rcases Nat.lt_or_ge i n with q | q
        · exact ih.mp (by omega) i q
        · have : i = n := by omega
          subst this; simpa using c
    · intro h
      rw [if_neg (by rw [h n (by omega)]; decide), ih.mpr (fun i hi => h i (by omega))]
/-- the JDK's bitCount, at masks of ten bits -/
def bcE (x0 : Int32) : Int32 :=
  let z1 := (x0 - (((x0.toUInt32 >>> ((1 : Int32).toUInt32 &&& Int32.toUInt32 31)).toInt32) &&& (1431655765 : Int32)))
  let z3 := ((z1 &&& (858993459 : Int32)) + (((z1.toUInt32 >>> ((2 : Int32).toUInt32 &&& Int32.toUInt32 31)).toInt32) &&& (858993459 : Int32)))
  let z5 := ((z3 + ((z3.toUInt32 >>> ((4 : Int32).toUInt32 &&& Int32.toUInt32 31)).toInt32)) &&& (252645135 : Int32))
  let z7 := (z5 + ((z5.toUInt32 >>> ((8 : Int32).toUInt32 &&& Int32.toUInt32 31)).toInt32))
  let z9 := (z7 + ((z7.toUInt32 >>> ((16 : Int32).toUInt32 &&& Int32.toUInt32 31)).toInt32))
  (z9 &&& (63 : Int32))
set_option maxRecDepth 20000 in
theorem bcE_ok : ∀ m, m < 1024 → bcE (nI m) = nI (cnt (bt (nI m)) 10) := by decide +kernel
/-- an int whose bits lie below ten is a small number -/
theorem b_small {x : Int32} (h : ∀ i, 10 ≤ i → bt x i = false) : ∃ m, m < 1024 ∧ x = nI m := by
  refine ⟨x.toBitVec.toNat, ?_, ?_⟩
  · have : x.toBitVec.toNat < 2 ^ 10 := by
      refine Nat.lt_pow_two_of_testBit _ (fun i hi => ?_)
      have := h i hi
      unfold bt at this
      rw [BitVec.getLsbD] at this
      exact this
    simpa using this
  · refine Int32.toBitVec_inj.mp ?_
    show _ = BitVec.ofNat 32 _
    simp
theorem s_bitCount {x : Int32} {Q : Int32 → Prop} (hb : ∀ i, 10 ≤ i → bt x i = false) (h : Q (nI (cnt (bt x) 10))) : wp_J6_bitCount_0f7a4 x Q := by
  obtain ⟨m, hm, rfl⟩ := b_small hb
  rw [← bcE_ok m hm] at h
  unfold wp_J6_bitCount_0f7a4
  intro z1 e1 z3 e3 z5 e5 z7 e7 z9 e9
  subst e1; subst e3; subst e5; subst e7; subst e9
  exact h
/-- the reference's bits -/
theorem l_bits {x : Int32} {Q : Int32 → Prop} : ∀ (m i : Nat), i + m = 31 → Q (nI (cnt (bt x) 31)) → wp_X7_bits_4 x Q (m + 1) (nI (cnt (bt x) i)) (nI i)
  | 0, i, hi, h => by
    unfold wp_X7_bits_4
    have : i = 31 := by omega
    subst this
    exact br_t (by decide) h
  | m + 1, i, hi, h => by
    unfold wp_X7_bits_4
    refine br_f (fun c => absurd ((nI_leI (a := 31) (b := i) (by decide) (by omega)).mp c) (by omega)) ?_
    intro z ez
    rw [b_sel (by omega)] at ez
    have e : z = nI (cnt (bt x) (i + 1)) := by
      rw [ez, cnt_s]
      cases c : bt x i
      · simp [b2i]
      · simp only [b2i, if_true]; exact nI_1 _
    rw [e, nI_1]
    exact l_bits m (i + 1) (by omega) h
theorem s_bits {x : Int32} {Q : Int32 → Prop} (hb : ∀ i, 10 ≤ i → bt x i = false) (h : Q (nI (cnt (bt x) 10))) : wp_X7_bits x Q :=
  ⟨32, l_bits 31 0 rfl (by rw [cnt_more (bt x) (m := 10) (by omega) (fun i h1 _ => hb i h1)]; exact h)⟩
theorem bn_t {c A B : Prop} (h : ¬ c) (a : A) : (¬ c → A) ∧ (c → B) := ⟨fun _ => a, fun z => absurd z h⟩
theorem bn_f {c A B : Prop} (h : c) (b : B) : (¬ c → A) ∧ (c → B) := ⟨fun z => absurd h z, fun _ => b⟩
/-- a branch on a Bool's number -/
theorem bb {b : Bool} {A B : Prop} (h0 : b = false → A) (h1 : b = true → B) : (b2i b = 0 → A) ∧ (¬ b2i b = 0 → B) := ⟨fun c => h0 ((b2i_0 b).mp c), fun c => h1 (by cases b; exact absurd rfl c; rfl)⟩
theorem bb' {b : Bool} {A B : Prop} (h1 : b = true → A) (h0 : b = false → B) : (¬ b2i b = 0 → A) ∧ (b2i b = 0 → B) := ⟨fun c => h1 (by cases b; exact absurd rfl c; rfl), fun c => h0 ((b2i_0 b).mp c)⟩
theorem s_hasBit {x : Int32} {j : Nat} (hj : j < 31) {Q : Int32 → Prop} (h : Q (b2i (bt x j))) : wp_X6_hasBit x (nI j) Q := by
  unfold wp_X6_hasBit
  rw [b_sel hj]
  exact bb (fun e => by rw [e] at h; exact h) (fun e => by rw [e] at h; exact h)
