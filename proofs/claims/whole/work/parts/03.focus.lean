set_option maxRecDepth 100000 in
set_option maxHeartbeats 4000000 in
theorem fc0_P {D : va_G} {k : Nat → ClassId} {a b : Nat → Nat} {S0 : St} {S1 : St} {H : Heap} (hP : va_P D vwCl (wEn k a S0 ++ wFl k b S1) H) : va_P D vwCl (wFl k b S1) H := by
  exact hP.sub [4, 5, 6, 7, 8] rfl
set_option maxRecDepth 100000 in
set_option maxHeartbeats 4000000 in
theorem fc0_D {k : Nat → ClassId} {a b : Nat → Nat} {S0 : St} {S1 : St} {A : Nat → Prop} (hD : va_D A (wEn k a S0 ++ wFl k b S1)) : va_D A (wFl k b S1) := by
  exact hD.sub [4, 5, 6, 7, 8] (by decide) rfl
set_option maxRecDepth 100000 in
set_option maxHeartbeats 4000000 in
theorem fc0_J {D : va_G} {k : Nat → ClassId} {a b : Nat → Nat} {S0 : St} {S1 : St} {H : Heap} {H1 : Heap} {A0 : Nat → Prop} {T0 : St} (hP : va_P D vwCl (wEn k a S0 ++ wFl k b S1) H) (hD : va_D A0 (wEn k a S0 ++ wFl k b S1)) (hk : ∀ q : Nat, q < H.size → ¬ va_A (wFl k b S1) H.size q → H1[q]? = H[q]?) (hF : ∀ q, va_A (wFl k b S1) H.size q → A0 q) (hP1 : va_P D vwCl (wFl k b T0) H1) (hD1 : va_D (va_A (wFl k b S1) H.size) (wFl k b T0)) : va_P D vwCl (wEn k a S0 ++ wFl k b T0) H1 ∧ va_D A0 (wEn k a S0 ++ wFl k b T0) := by
  exact cut_join hP hD [4, 5, 6, 7, 8] [0, 1, 2, 3] [0, 1, 2, 3, 4, 5, 6, 7, 8] (by decide) (by decide) (by decide) rfl rfl hk hF hP1 hD1 rfl

set_option maxRecDepth 100000 in
set_option maxHeartbeats 4000000 in
theorem fc1_P {D : va_G} {k : Nat → ClassId} {a b : Nat → Nat} {S0 : St × (Nat → St)} {S1 : St} {H : Heap} (hP : va_P D vwCl (wEv k a S0 ++ wFl k b S1) H) : va_P D vwCl (wFl k (sh a 3) (S0.2 0) ++ wFl k b S1) H := by
  exact hP.sub [3, 4, 5, 6, 7, 38, 39, 40, 41, 42] rfl
set_option maxRecDepth 100000 in
set_option maxHeartbeats 4000000 in
theorem fc1_D {k : Nat → ClassId} {a b : Nat → Nat} {S0 : St × (Nat → St)} {S1 : St} {A : Nat → Prop} (hD : va_D A (wEv k a S0 ++ wFl k b S1)) : va_D A (wFl k (sh a 3) (S0.2 0) ++ wFl k b S1) := by
  exact hD.sub [3, 4, 5, 6, 7, 38, 39, 40, 41, 42] (by decide) rfl
set_option maxRecDepth 100000 in
set_option maxHeartbeats 4000000 in
theorem fc1_J {D : va_G} {k : Nat → ClassId} {a b : Nat → Nat} {S0 : St × (Nat → St)} {S1 : St} {H : Heap} {H1 : Heap} {A0 : Nat → Prop} {T0 : St} {T1 : St} (hP : va_P D vwCl (wEv k a S0 ++ wFl k b S1) H) (hD : va_D A0 (wEv k a S0 ++ wFl k b S1)) (hk : ∀ q : Nat, q < H.size → ¬ va_A (wFl k (sh a 3) (S0.2 0) ++ wFl k b S1) H.size q → H1[q]? = H[q]?) (hF : ∀ q, va_A (wFl k (sh a 3) (S0.2 0) ++ wFl k b S1) H.size q → A0 q) (hP1 : va_P D vwCl (wFl k (sh a 3) T0 ++ wFl k b T1) H1) (hD1 : va_D (va_A (wFl k (sh a 3) (S0.2 0) ++ wFl k b S1) H.size) (wFl k (sh a 3) T0 ++ wFl k b T1)) : va_P D vwCl (wEv k a (S0.1, va_up S0.2 0 T0) ++ wFl k b T1) H1 ∧ va_D A0 (wEv k a (S0.1, va_up S0.2 0 T0) ++ wFl k b T1) := by
  exact cut_join hP hD [3, 4, 5, 6, 7, 38, 39, 40, 41, 42] [0, 1, 2, 8, 9, 10, 11, 12, 13, 14, 15, 16, 17, 18, 19, 20, 21, 22, 23, 24, 25, 26, 27, 28, 29, 30, 31, 32, 33, 34, 35, 36, 37] [0, 1, 2, 33, 34, 35, 36, 37, 3, 4, 5, 6, 7, 8, 9, 10, 11, 12, 13, 14, 15, 16, 17, 18, 19, 20, 21, 22, 23, 24, 25, 26, 27, 28, 29, 30, 31, 32, 38, 39, 40, 41, 42] (by decide) (by decide) (by decide) rfl rfl hk hF hP1 hD1 rfl

set_option maxRecDepth 100000 in
set_option maxHeartbeats 4000000 in
theorem fc2_P {D : va_G} {k : Nat → ClassId} {a b : Nat → Nat} {S0 : St × (Nat → St)} {S1 : St} {H : Heap} (hP : va_P D vwCl (wEv k a S0 ++ wFl k b S1) H) : va_P D vwCl (wFl k (sh a 3) (S0.2 0)) H := by
  exact hP.sub [3, 4, 5, 6, 7] rfl
set_option maxRecDepth 100000 in
set_option maxHeartbeats 4000000 in
theorem fc2_D {k : Nat → ClassId} {a b : Nat → Nat} {S0 : St × (Nat → St)} {S1 : St} {A : Nat → Prop} (hD : va_D A (wEv k a S0 ++ wFl k b S1)) : va_D A (wFl k (sh a 3) (S0.2 0)) := by
  exact hD.sub [3, 4, 5, 6, 7] (by decide) rfl
set_option maxRecDepth 100000 in
set_option maxHeartbeats 4000000 in
theorem fc2_J {D : va_G} {k : Nat → ClassId} {a b : Nat → Nat} {S0 : St × (Nat → St)} {S1 : St} {H : Heap} {H1 : Heap} {A0 : Nat → Prop} {T0 : St} (hP : va_P D vwCl (wEv k a S0 ++ wFl k b S1) H) (hD : va_D A0 (wEv k a S0 ++ wFl k b S1)) (hk : ∀ q : Nat, q < H.size → ¬ va_A (wFl k (sh a 3) (S0.2 0)) H.size q → H1[q]? = H[q]?) (hF : ∀ q, va_A (wFl k (sh a 3) (S0.2 0)) H.size q → A0 q) (hP1 : va_P D vwCl (wFl k (sh a 3) T0) H1) (hD1 : va_D (va_A (wFl k (sh a 3) (S0.2 0)) H.size) (wFl k (sh a 3) T0)) : va_P D vwCl (wEv k a (S0.1, va_up S0.2 0 T0) ++ wFl k b S1) H1 ∧ va_D A0 (wEv k a (S0.1, va_up S0.2 0 T0) ++ wFl k b S1) := by
  exact cut_join hP hD [3, 4, 5, 6, 7] [0, 1, 2, 8, 9, 10, 11, 12, 13, 14, 15, 16, 17, 18, 19, 20, 21, 22, 23, 24, 25, 26, 27, 28, 29, 30, 31, 32, 33, 34, 35, 36, 37, 38, 39, 40, 41, 42] [0, 1, 2, 38, 39, 40, 41, 42, 3, 4, 5, 6, 7, 8, 9, 10, 11, 12, 13, 14, 15, 16, 17, 18, 19, 20, 21, 22, 23, 24, 25, 26, 27, 28, 29, 30, 31, 32, 33, 34, 35, 36, 37] (by decide) (by decide) (by decide) rfl rfl hk hF hP1 hD1 rfl

set_option maxRecDepth 100000 in
set_option maxHeartbeats 4000000 in
theorem fc3_P {D : va_G} {k : Nat → ClassId} {a : Nat → Nat} {S0 : St × (Nat → St)} {H : Heap} {j1 : Nat} (hj1 : j1 < 7) (hP : va_P D vwCl (wEv k a S0) H) : va_P D vwCl (wFl k (sh a (3 + 5 * j1)) (S0.2 j1)) H := by
  rcases (show j1 = 0 ∨ j1 = 1 ∨ j1 = 2 ∨ j1 = 3 ∨ j1 = 4 ∨ j1 = 5 ∨ j1 = 6 by omega) with rfl | rfl | rfl | rfl | rfl | rfl | rfl
  · exact hP.sub [3, 4, 5, 6, 7] rfl
  · exact hP.sub [8, 9, 10, 11, 12] rfl
  · exact hP.sub [13, 14, 15, 16, 17] rfl
  · exact hP.sub [18, 19, 20, 21, 22] rfl
  · exact hP.sub [23, 24, 25, 26, 27] rfl
  · exact hP.sub [28, 29, 30, 31, 32] rfl
  · exact hP.sub [33, 34, 35, 36, 37] rfl
set_option maxRecDepth 100000 in
set_option maxHeartbeats 4000000 in
theorem fc3_D {k : Nat → ClassId} {a : Nat → Nat} {S0 : St × (Nat → St)} {A : Nat → Prop} {j1 : Nat} (hj1 : j1 < 7) (hD : va_D A (wEv k a S0)) : va_D A (wFl k (sh a (3 + 5 * j1)) (S0.2 j1)) := by
  rcases (show j1 = 0 ∨ j1 = 1 ∨ j1 = 2 ∨ j1 = 3 ∨ j1 = 4 ∨ j1 = 5 ∨ j1 = 6 by omega) with rfl | rfl | rfl | rfl | rfl | rfl | rfl
  · exact hD.sub [3, 4, 5, 6, 7] (by decide) rfl
  · exact hD.sub [8, 9, 10, 11, 12] (by decide) rfl
  · exact hD.sub [13, 14, 15, 16, 17] (by decide) rfl
  · exact hD.sub [18, 19, 20, 21, 22] (by decide) rfl
  · exact hD.sub [23, 24, 25, 26, 27] (by decide) rfl
  · exact hD.sub [28, 29, 30, 31, 32] (by decide) rfl
  · exact hD.sub [33, 34, 35, 36, 37] (by decide) rfl
set_option maxRecDepth 100000 in
set_option maxHeartbeats 4000000 in
theorem fc3_J {D : va_G} {k : Nat → ClassId} {a : Nat → Nat} {S0 : St × (Nat → St)} {H : Heap} {H1 : Heap} {A0 : Nat → Prop} {T0 : St} {j1 : Nat} (hj1 : j1 < 7) (hP : va_P D vwCl (wEv k a S0) H) (hD : va_D A0 (wEv k a S0)) (hk : ∀ q : Nat, q < H.size → ¬ va_A (wFl k (sh a (3 + 5 * j1)) (S0.2 j1)) H.size q → H1[q]? = H[q]?) (hF : ∀ q, va_A (wFl k (sh a (3 + 5 * j1)) (S0.2 j1)) H.size q → A0 q) (hP1 : va_P D vwCl (wFl k (sh a (3 + 5 * j1)) T0) H1) (hD1 : va_D (va_A (wFl k (sh a (3 + 5 * j1)) (S0.2 j1)) H.size) (wFl k (sh a (3 + 5 * j1)) T0)) : va_P D vwCl (wEv k a (S0.1, va_up S0.2 j1 T0)) H1 ∧ va_D A0 (wEv k a (S0.1, va_up S0.2 j1 T0)) := by
  rcases (show j1 = 0 ∨ j1 = 1 ∨ j1 = 2 ∨ j1 = 3 ∨ j1 = 4 ∨ j1 = 5 ∨ j1 = 6 by omega) with rfl | rfl | rfl | rfl | rfl | rfl | rfl
  · exact cut_join hP hD [3, 4, 5, 6, 7] [0, 1, 2, 8, 9, 10, 11, 12, 13, 14, 15, 16, 17, 18, 19, 20, 21, 22, 23, 24, 25, 26, 27, 28, 29, 30, 31, 32, 33, 34, 35, 36, 37] [0, 1, 2, 33, 34, 35, 36, 37, 3, 4, 5, 6, 7, 8, 9, 10, 11, 12, 13, 14, 15, 16, 17, 18, 19, 20, 21, 22, 23, 24, 25, 26, 27, 28, 29, 30, 31, 32] (by decide) (by decide) (by decide) rfl rfl hk hF hP1 hD1 rfl
  · exact cut_join hP hD [8, 9, 10, 11, 12] [0, 1, 2, 3, 4, 5, 6, 7, 13, 14, 15, 16, 17, 18, 19, 20, 21, 22, 23, 24, 25, 26, 27, 28, 29, 30, 31, 32, 33, 34, 35, 36, 37] [0, 1, 2, 3, 4, 5, 6, 7, 33, 34, 35, 36, 37, 8, 9, 10, 11, 12, 13, 14, 15, 16, 17, 18, 19, 20, 21, 22, 23, 24, 25, 26, 27, 28, 29, 30, 31, 32] (by decide) (by decide) (by decide) rfl rfl hk hF hP1 hD1 rfl
  · exact cut_join hP hD [13, 14, 15, 16, 17] [0, 1, 2, 3, 4, 5, 6, 7, 8, 9, 10, 11, 12, 18, 19, 20, 21, 22, 23, 24, 25, 26, 27, 28, 29, 30, 31, 32, 33, 34, 35, 36, 37] [0, 1, 2, 3, 4, 5, 6, 7, 8, 9, 10, 11, 12, 33, 34, 35, 36, 37, 13, 14, 15, 16, 17, 18, 19, 20, 21, 22, 23, 24, 25, 26, 27, 28, 29, 30, 31, 32] (by decide) (by decide) (by decide) rfl rfl hk hF hP1 hD1 rfl
  · exact cut_join hP hD [18, 19, 20, 21, 22] [0, 1, 2, 3, 4, 5, 6, 7, 8, 9, 10, 11, 12, 13, 14, 15, 16, 17, 23, 24, 25, 26, 27, 28, 29, 30, 31, 32, 33, 34, 35, 36, 37] [0, 1, 2, 3, 4, 5, 6, 7, 8, 9, 10, 11, 12, 13, 14, 15, 16, 17, 33, 34, 35, 36, 37, 18, 19, 20, 21, 22, 23, 24, 25, 26, 27, 28, 29, 30, 31, 32] (by decide) (by decide) (by decide) rfl rfl hk hF hP1 hD1 rfl
  · exact cut_join hP hD [23, 24, 25, 26, 27] [0, 1, 2, 3, 4, 5, 6, 7, 8, 9, 10, 11, 12, 13, 14, 15, 16, 17, 18, 19, 20, 21, 22, 28, 29, 30, 31, 32, 33, 34, 35, 36, 37] [0, 1, 2, 3, 4, 5, 6, 7, 8, 9, 10, 11, 12, 13, 14, 15, 16, 17, 18, 19, 20, 21, 22, 33, 34, 35, 36, 37, 23, 24, 25, 26, 27, 28, 29, 30, 31, 32] (by decide) (by decide) (by decide) rfl rfl hk hF hP1 hD1 rfl
  · exact cut_join hP hD [28, 29, 30, 31, 32] [0, 1, 2, 3, 4, 5, 6, 7, 8, 9, 10, 11, 12, 13, 14, 15, 16, 17, 18, 19, 20, 21, 22, 23, 24, 25, 26, 27, 33, 34, 35, 36, 37] [0, 1, 2, 3, 4, 5, 6, 7, 8, 9, 10, 11, 12, 13, 14, 15, 16, 17, 18, 19, 20, 21, 22, 23, 24, 25, 26, 27, 33, 34, 35, 36, 37, 28, 29, 30, 31, 32] (by decide) (by decide) (by decide) rfl rfl hk hF hP1 hD1 rfl
  · exact cut_join hP hD [33, 34, 35, 36, 37] [0, 1, 2, 3, 4, 5, 6, 7, 8, 9, 10, 11, 12, 13, 14, 15, 16, 17, 18, 19, 20, 21, 22, 23, 24, 25, 26, 27, 28, 29, 30, 31, 32] [0, 1, 2, 3, 4, 5, 6, 7, 8, 9, 10, 11, 12, 13, 14, 15, 16, 17, 18, 19, 20, 21, 22, 23, 24, 25, 26, 27, 28, 29, 30, 31, 32, 33, 34, 35, 36, 37] (by decide) (by decide) (by decide) rfl rfl hk hF hP1 hD1 rfl

set_option maxRecDepth 100000 in
set_option maxHeartbeats 4000000 in
theorem fc4_P {D : va_G} {k : Nat → ClassId} {a : Nat → Nat} {S0 : St × (Nat → St)} {H : Heap} {j1 : Nat} (hj1 : j1 < 7) {j2 : Nat} (hj2 : j2 < 7) (hne : j1 ≠ j2) (hP : va_P D vwCl (wEv k a S0) H) : va_P D vwCl (wFl k (sh a (3 + 5 * j1)) (S0.2 j1) ++ wFl k (sh a (3 + 5 * j2)) (S0.2 j2)) H := by
  rcases (show (j1 = 0 ∧ j2 = 1) ∨ (j1 = 0 ∧ j2 = 2) ∨ (j1 = 0 ∧ j2 = 3) ∨ (j1 = 0 ∧ j2 = 4) ∨ (j1 = 0 ∧ j2 = 5) ∨ (j1 = 0 ∧ j2 = 6) ∨ (j1 = 1 ∧ j2 = 0) ∨ (j1 = 1 ∧ j2 = 2) ∨ (j1 = 1 ∧ j2 = 3) ∨ (j1 = 1 ∧ j2 = 4) ∨ (j1 = 1 ∧ j2 = 5) ∨ (j1 = 1 ∧ j2 = 6) ∨ (j1 = 2 ∧ j2 = 0) ∨ (j1 = 2 ∧ j2 = 1) ∨ (j1 = 2 ∧ j2 = 3) ∨ (j1 = 2 ∧ j2 = 4) ∨ (j1 = 2 ∧ j2 = 5) ∨ (j1 = 2 ∧ j2 = 6) ∨ (j1 = 3 ∧ j2 = 0) ∨ (j1 = 3 ∧ j2 = 1) ∨ (j1 = 3 ∧ j2 = 2) ∨ (j1 = 3 ∧ j2 = 4) ∨ (j1 = 3 ∧ j2 = 5) ∨ (j1 = 3 ∧ j2 = 6) ∨ (j1 = 4 ∧ j2 = 0) ∨ (j1 = 4 ∧ j2 = 1) ∨ (j1 = 4 ∧ j2 = 2) ∨ (j1 = 4 ∧ j2 = 3) ∨ (j1 = 4 ∧ j2 = 5) ∨ (j1 = 4 ∧ j2 = 6) ∨ (j1 = 5 ∧ j2 = 0) ∨ (j1 = 5 ∧ j2 = 1) ∨ (j1 = 5 ∧ j2 = 2) ∨ (j1 = 5 ∧ j2 = 3) ∨ (j1 = 5 ∧ j2 = 4) ∨ (j1 = 5 ∧ j2 = 6) ∨ (j1 = 6 ∧ j2 = 0) ∨ (j1 = 6 ∧ j2 = 1) ∨ (j1 = 6 ∧ j2 = 2) ∨ (j1 = 6 ∧ j2 = 3) ∨ (j1 = 6 ∧ j2 = 4) ∨ (j1 = 6 ∧ j2 = 5) by omega) with ⟨rfl, rfl⟩ | ⟨rfl, rfl⟩ | ⟨rfl, rfl⟩ | ⟨rfl, rfl⟩ | ⟨rfl, rfl⟩ | ⟨rfl, rfl⟩ | ⟨rfl, rfl⟩ | ⟨rfl, rfl⟩ | ⟨rfl, rfl⟩ | ⟨rfl, rfl⟩ | ⟨rfl, rfl⟩ | ⟨rfl, rfl⟩ | ⟨rfl, rfl⟩ | ⟨rfl, rfl⟩ | ⟨rfl, rfl⟩ | ⟨rfl, rfl⟩ | ⟨rfl, rfl⟩ | ⟨rfl, rfl⟩ | ⟨rfl, rfl⟩ | ⟨rfl, rfl⟩ | ⟨rfl, rfl⟩ | ⟨rfl, rfl⟩ | ⟨rfl, rfl⟩ | ⟨rfl, rfl⟩ | ⟨rfl, rfl⟩ | ⟨rfl, rfl⟩ | ⟨rfl, rfl⟩ | ⟨rfl, rfl⟩ | ⟨rfl, rfl⟩ | ⟨rfl, rfl⟩ | ⟨rfl, rfl⟩ | ⟨rfl, rfl⟩ | ⟨rfl, rfl⟩ | ⟨rfl, rfl⟩ | ⟨rfl, rfl⟩ | ⟨rfl, rfl⟩ | ⟨rfl, rfl⟩ | ⟨rfl, rfl⟩ | ⟨rfl, rfl⟩ | ⟨rfl, rfl⟩ | ⟨rfl, rfl⟩ | ⟨rfl, rfl⟩
  · exact hP.sub [3, 4, 5, 6, 7, 8, 9, 10, 11, 12] rfl
  · exact hP.sub [3, 4, 5, 6, 7, 13, 14, 15, 16, 17] rfl
  · exact hP.sub [3, 4, 5, 6, 7, 18, 19, 20, 21, 22] rfl
  · exact hP.sub [3, 4, 5, 6, 7, 23, 24, 25, 26, 27] rfl
  · exact hP.sub [3, 4, 5, 6, 7, 28, 29, 30, 31, 32] rfl
  · exact hP.sub [3, 4, 5, 6, 7, 33, 34, 35, 36, 37] rfl
  · exact hP.sub [8, 9, 10, 11, 12, 3, 4, 5, 6, 7] rfl
  · exact hP.sub [8, 9, 10, 11, 12, 13, 14, 15, 16, 17] rfl
  · exact hP.sub [8, 9, 10, 11, 12, 18, 19, 20, 21, 22] rfl
  · exact hP.sub [8, 9, 10, 11, 12, 23, 24, 25, 26, 27] rfl
  · exact hP.sub [8, 9, 10, 11, 12, 28, 29, 30, 31, 32] rfl
  · exact hP.sub [8, 9, 10, 11, 12, 33, 34, 35, 36, 37] rfl
  · exact hP.sub [13, 14, 15, 16, 17, 3, 4, 5, 6, 7] rfl
  · exact hP.sub [13, 14, 15, 16, 17, 8, 9, 10, 11, 12] rfl
  · exact hP.sub [13, 14, 15, 16, 17, 18, 19, 20, 21, 22] rfl
  · exact hP.sub [13, 14, 15, 16, 17, 23, 24, 25, 26, 27] rfl
  · exact hP.sub [13, 14, 15, 16, 17, 28, 29, 30, 31, 32] rfl
  · exact hP.sub [13, 14, 15, 16, 17, 33, 34, 35, 36, 37] rfl
  · exact hP.sub [18, 19, 20, 21, 22, 3, 4, 5, 6, 7] rfl
  · exact hP.sub [18, 19, 20, 21, 22, 8, 9, 10, 11, 12] rfl
  · exact hP.sub [18, 19, 20, 21, 22, 13, 14, 15, 16, 17] rfl
  · exact hP.sub [18, 19, 20, 21, 22, 23, 24, 25, 26, 27] rfl
  · exact hP.sub [18, 19, 20, 21, 22, 28, 29, 30, 31, 32] rfl
  · exact hP.sub [18, 19, 20, 21, 22, 33, 34, 35, 36, 37] rfl
  · exact hP.sub [23, 24, 25, 26, 27, 3, 4, 5, 6, 7] rfl
  · exact hP.sub [23, 24, 25, 26, 27, 8, 9, 10, 11, 12] rfl
  · exact hP.sub [23, 24, 25, 26, 27, 13, 14, 15, 16, 17] rfl
  · exact hP.sub [23, 24, 25, 26, 27, 18, 19, 20, 21, 22] rfl
  · exact hP.sub [23, 24, 25, 26, 27, 28, 29, 30, 31, 32] rfl
  · exact hP.sub [23, 24, 25, 26, 27, 33, 34, 35, 36, 37] rfl
  · exact hP.sub [28, 29, 30, 31, 32, 3, 4, 5, 6, 7] rfl
  · exact hP.sub [28, 29, 30, 31, 32, 8, 9, 10, 11, 12] rfl
  · exact hP.sub [28, 29, 30, 31, 32, 13, 14, 15, 16, 17] rfl
  · exact hP.sub [28, 29, 30, 31, 32, 18, 19, 20, 21, 22] rfl
  · exact hP.sub [28, 29, 30, 31, 32, 23, 24, 25, 26, 27] rfl
  · exact hP.sub [28, 29, 30, 31, 32, 33, 34, 35, 36, 37] rfl
  · exact hP.sub [33, 34, 35, 36, 37, 3, 4, 5, 6, 7] rfl
  · exact hP.sub [33, 34, 35, 36, 37, 8, 9, 10, 11, 12] rfl
  · exact hP.sub [33, 34, 35, 36, 37, 13, 14, 15, 16, 17] rfl
  · exact hP.sub [33, 34, 35, 36, 37, 18, 19, 20, 21, 22] rfl
  · exact hP.sub [33, 34, 35, 36, 37, 23, 24, 25, 26, 27] rfl
  · exact hP.sub [33, 34, 35, 36, 37, 28, 29, 30, 31, 32] rfl
set_option maxRecDepth 100000 in
set_option maxHeartbeats 4000000 in
theorem fc4_D {k : Nat → ClassId} {a : Nat → Nat} {S0 : St × (Nat → St)} {A : Nat → Prop} {j1 : Nat} (hj1 : j1 < 7) {j2 : Nat} (hj2 : j2 < 7) (hne : j1 ≠ j2) (hD : va_D A (wEv k a S0)) : va_D A (wFl k (sh a (3 + 5 * j1)) (S0.2 j1) ++ wFl k (sh a (3 + 5 * j2)) (S0.2 j2)) := by
  rcases (show (j1 = 0 ∧ j2 = 1) ∨ (j1 = 0 ∧ j2 = 2) ∨ (j1 = 0 ∧ j2 = 3) ∨ (j1 = 0 ∧ j2 = 4) ∨ (j1 = 0 ∧ j2 = 5) ∨ (j1 = 0 ∧ j2 = 6) ∨ (j1 = 1 ∧ j2 = 0) ∨ (j1 = 1 ∧ j2 = 2) ∨ (j1 = 1 ∧ j2 = 3) ∨ (j1 = 1 ∧ j2 = 4) ∨ (j1 = 1 ∧ j2 = 5) ∨ (j1 = 1 ∧ j2 = 6) ∨ (j1 = 2 ∧ j2 = 0) ∨ (j1 = 2 ∧ j2 = 1) ∨ (j1 = 2 ∧ j2 = 3) ∨ (j1 = 2 ∧ j2 = 4) ∨ (j1 = 2 ∧ j2 = 5) ∨ (j1 = 2 ∧ j2 = 6) ∨ (j1 = 3 ∧ j2 = 0) ∨ (j1 = 3 ∧ j2 = 1) ∨ (j1 = 3 ∧ j2 = 2) ∨ (j1 = 3 ∧ j2 = 4) ∨ (j1 = 3 ∧ j2 = 5) ∨ (j1 = 3 ∧ j2 = 6) ∨ (j1 = 4 ∧ j2 = 0) ∨ (j1 = 4 ∧ j2 = 1) ∨ (j1 = 4 ∧ j2 = 2) ∨ (j1 = 4 ∧ j2 = 3) ∨ (j1 = 4 ∧ j2 = 5) ∨ (j1 = 4 ∧ j2 = 6) ∨ (j1 = 5 ∧ j2 = 0) ∨ (j1 = 5 ∧ j2 = 1) ∨ (j1 = 5 ∧ j2 = 2) ∨ (j1 = 5 ∧ j2 = 3) ∨ (j1 = 5 ∧ j2 = 4) ∨ (j1 = 5 ∧ j2 = 6) ∨ (j1 = 6 ∧ j2 = 0) ∨ (j1 = 6 ∧ j2 = 1) ∨ (j1 = 6 ∧ j2 = 2) ∨ (j1 = 6 ∧ j2 = 3) ∨ (j1 = 6 ∧ j2 = 4) ∨ (j1 = 6 ∧ j2 = 5) by omega) with ⟨rfl, rfl⟩ | ⟨rfl, rfl⟩ | ⟨rfl, rfl⟩ | ⟨rfl, rfl⟩ | ⟨rfl, rfl⟩ | ⟨rfl, rfl⟩ | ⟨rfl, rfl⟩ | ⟨rfl, rfl⟩ | ⟨rfl, rfl⟩ | ⟨rfl, rfl⟩ | ⟨rfl, rfl⟩ | ⟨rfl, rfl⟩ | ⟨rfl, rfl⟩ | ⟨rfl, rfl⟩ | ⟨rfl, rfl⟩ | ⟨rfl, rfl⟩ | ⟨rfl, rfl⟩ | ⟨rfl, rfl⟩ | ⟨rfl, rfl⟩ | ⟨rfl, rfl⟩ | ⟨rfl, rfl⟩ | ⟨rfl, rfl⟩ | ⟨rfl, rfl⟩ | ⟨rfl, rfl⟩ | ⟨rfl, rfl⟩ | ⟨rfl, rfl⟩ | ⟨rfl, rfl⟩ | ⟨rfl, rfl⟩ | ⟨rfl, rfl⟩ | ⟨rfl, rfl⟩ | ⟨rfl, rfl⟩ | ⟨rfl, rfl⟩ | ⟨rfl, rfl⟩ | ⟨rfl, rfl⟩ | ⟨rfl, rfl⟩ | ⟨rfl, rfl⟩ | ⟨rfl, rfl⟩ | ⟨rfl, rfl⟩ | ⟨rfl, rfl⟩ | ⟨rfl, rfl⟩ | ⟨rfl, rfl⟩ | ⟨rfl, rfl⟩
  · exact hD.sub [3, 4, 5, 6, 7, 8, 9, 10, 11, 12] (by decide) rfl
  · exact hD.sub [3, 4, 5, 6, 7, 13, 14, 15, 16, 17] (by decide) rfl
  · exact hD.sub [3, 4, 5, 6, 7, 18, 19, 20, 21, 22] (by decide) rfl
  · exact hD.sub [3, 4, 5, 6, 7, 23, 24, 25, 26, 27] (by decide) rfl
  · exact hD.sub [3, 4, 5, 6, 7, 28, 29, 30, 31, 32] (by decide) rfl
  · exact hD.sub [3, 4, 5, 6, 7, 33, 34, 35, 36, 37] (by decide) rfl
  · exact hD.sub [8, 9, 10, 11, 12, 3, 4, 5, 6, 7] (by decide) rfl
  · exact hD.sub [8, 9, 10, 11, 12, 13, 14, 15, 16, 17] (by decide) rfl
  · exact hD.sub [8, 9, 10, 11, 12, 18, 19, 20, 21, 22] (by decide) rfl
  · exact hD.sub [8, 9, 10, 11, 12, 23, 24, 25, 26, 27] (by decide) rfl
  · exact hD.sub [8, 9, 10, 11, 12, 28, 29, 30, 31, 32] (by decide) rfl
  · exact hD.sub [8, 9, 10, 11, 12, 33, 34, 35, 36, 37] (by decide) rfl
  · exact hD.sub [13, 14, 15, 16, 17, 3, 4, 5, 6, 7] (by decide) rfl
  · exact hD.sub [13, 14, 15, 16, 17, 8, 9, 10, 11, 12] (by decide) rfl
  · exact hD.sub [13, 14, 15, 16, 17, 18, 19, 20, 21, 22] (by decide) rfl
  · exact hD.sub [13, 14, 15, 16, 17, 23, 24, 25, 26, 27] (by decide) rfl
  · exact hD.sub [13, 14, 15, 16, 17, 28, 29, 30, 31, 32] (by decide) rfl
  · exact hD.sub [13, 14, 15, 16, 17, 33, 34, 35, 36, 37] (by decide) rfl
  · exact hD.sub [18, 19, 20, 21, 22, 3, 4, 5, 6, 7] (by decide) rfl
  · exact hD.sub [18, 19, 20, 21, 22, 8, 9, 10, 11, 12] (by decide) rfl
  · exact hD.sub [18, 19, 20, 21, 22, 13, 14, 15, 16, 17] (by decide) rfl
  · exact hD.sub [18, 19, 20, 21, 22, 23, 24, 25, 26, 27] (by decide) rfl
  · exact hD.sub [18, 19, 20, 21, 22, 28, 29, 30, 31, 32] (by decide) rfl
  · exact hD.sub [18, 19, 20, 21, 22, 33, 34, 35, 36, 37] (by decide) rfl
  · exact hD.sub [23, 24, 25, 26, 27, 3, 4, 5, 6, 7] (by decide) rfl
  · exact hD.sub [23, 24, 25, 26, 27, 8, 9, 10, 11, 12] (by decide) rfl
  · exact hD.sub [23, 24, 25, 26, 27, 13, 14, 15, 16, 17] (by decide) rfl
  · exact hD.sub [23, 24, 25, 26, 27, 18, 19, 20, 21, 22] (by decide) rfl
  · exact hD.sub [23, 24, 25, 26, 27, 28, 29, 30, 31, 32] (by decide) rfl
  · exact hD.sub [23, 24, 25, 26, 27, 33, 34, 35, 36, 37] (by decide) rfl
  · exact hD.sub [28, 29, 30, 31, 32, 3, 4, 5, 6, 7] (by decide) rfl
  · exact hD.sub [28, 29, 30, 31, 32, 8, 9, 10, 11, 12] (by decide) rfl
  · exact hD.sub [28, 29, 30, 31, 32, 13, 14, 15, 16, 17] (by decide) rfl
  · exact hD.sub [28, 29, 30, 31, 32, 18, 19, 20, 21, 22] (by decide) rfl
  · exact hD.sub [28, 29, 30, 31, 32, 23, 24, 25, 26, 27] (by decide) rfl
  · exact hD.sub [28, 29, 30, 31, 32, 33, 34, 35, 36, 37] (by decide) rfl
  · exact hD.sub [33, 34, 35, 36, 37, 3, 4, 5, 6, 7] (by decide) rfl
  · exact hD.sub [33, 34, 35, 36, 37, 8, 9, 10, 11, 12] (by decide) rfl
  · exact hD.sub [33, 34, 35, 36, 37, 13, 14, 15, 16, 17] (by decide) rfl
  · exact hD.sub [33, 34, 35, 36, 37, 18, 19, 20, 21, 22] (by decide) rfl
  · exact hD.sub [33, 34, 35, 36, 37, 23, 24, 25, 26, 27] (by decide) rfl
  · exact hD.sub [33, 34, 35, 36, 37, 28, 29, 30, 31, 32] (by decide) rfl
set_option maxRecDepth 100000 in
set_option maxHeartbeats 4000000 in
theorem fc4_J {D : va_G} {k : Nat → ClassId} {a : Nat → Nat} {S0 : St × (Nat → St)} {H : Heap} {H1 : Heap} {A0 : Nat → Prop} {T0 : St} {T1 : St} {j1 : Nat} (hj1 : j1 < 7) {j2 : Nat} (hj2 : j2 < 7) (hne : j1 ≠ j2) (hP : va_P D vwCl (wEv k a S0) H) (hD : va_D A0 (wEv k a S0)) (hk : ∀ q : Nat, q < H.size → ¬ va_A (wFl k (sh a (3 + 5 * j1)) (S0.2 j1) ++ wFl k (sh a (3 + 5 * j2)) (S0.2 j2)) H.size q → H1[q]? = H[q]?) (hF : ∀ q, va_A (wFl k (sh a (3 + 5 * j1)) (S0.2 j1) ++ wFl k (sh a (3 + 5 * j2)) (S0.2 j2)) H.size q → A0 q) (hP1 : va_P D vwCl (wFl k (sh a (3 + 5 * j1)) T0 ++ wFl k (sh a (3 + 5 * j2)) T1) H1) (hD1 : va_D (va_A (wFl k (sh a (3 + 5 * j1)) (S0.2 j1) ++ wFl k (sh a (3 + 5 * j2)) (S0.2 j2)) H.size) (wFl k (sh a (3 + 5 * j1)) T0 ++ wFl k (sh a (3 + 5 * j2)) T1)) : va_P D vwCl (wEv k a ((S0.1, va_up S0.2 j1 T0).1, va_up (S0.1, va_up S0.2 j1 T0).2 j2 T1)) H1 ∧ va_D A0 (wEv k a ((S0.1, va_up S0.2 j1 T0).1, va_up (S0.1, va_up S0.2 j1 T0).2 j2 T1)) := by
  rcases (show (j1 = 0 ∧ j2 = 1) ∨ (j1 = 0 ∧ j2 = 2) ∨ (j1 = 0 ∧ j2 = 3) ∨ (j1 = 0 ∧ j2 = 4) ∨ (j1 = 0 ∧ j2 = 5) ∨ (j1 = 0 ∧ j2 = 6) ∨ (j1 = 1 ∧ j2 = 0) ∨ (j1 = 1 ∧ j2 = 2) ∨ (j1 = 1 ∧ j2 = 3) ∨ (j1 = 1 ∧ j2 = 4) ∨ (j1 = 1 ∧ j2 = 5) ∨ (j1 = 1 ∧ j2 = 6) ∨ (j1 = 2 ∧ j2 = 0) ∨ (j1 = 2 ∧ j2 = 1) ∨ (j1 = 2 ∧ j2 = 3) ∨ (j1 = 2 ∧ j2 = 4) ∨ (j1 = 2 ∧ j2 = 5) ∨ (j1 = 2 ∧ j2 = 6) ∨ (j1 = 3 ∧ j2 = 0) ∨ (j1 = 3 ∧ j2 = 1) ∨ (j1 = 3 ∧ j2 = 2) ∨ (j1 = 3 ∧ j2 = 4) ∨ (j1 = 3 ∧ j2 = 5) ∨ (j1 = 3 ∧ j2 = 6) ∨ (j1 = 4 ∧ j2 = 0) ∨ (j1 = 4 ∧ j2 = 1) ∨ (j1 = 4 ∧ j2 = 2) ∨ (j1 = 4 ∧ j2 = 3) ∨ (j1 = 4 ∧ j2 = 5) ∨ (j1 = 4 ∧ j2 = 6) ∨ (j1 = 5 ∧ j2 = 0) ∨ (j1 = 5 ∧ j2 = 1) ∨ (j1 = 5 ∧ j2 = 2) ∨ (j1 = 5 ∧ j2 = 3) ∨ (j1 = 5 ∧ j2 = 4) ∨ (j1 = 5 ∧ j2 = 6) ∨ (j1 = 6 ∧ j2 = 0) ∨ (j1 = 6 ∧ j2 = 1) ∨ (j1 = 6 ∧ j2 = 2) ∨ (j1 = 6 ∧ j2 = 3) ∨ (j1 = 6 ∧ j2 = 4) ∨ (j1 = 6 ∧ j2 = 5) by omega) with ⟨rfl, rfl⟩ | ⟨rfl, rfl⟩ | ⟨rfl, rfl⟩ | ⟨rfl, rfl⟩ | ⟨rfl, rfl⟩ | ⟨rfl, rfl⟩ | ⟨rfl, rfl⟩ | ⟨rfl, rfl⟩ | ⟨rfl, rfl⟩ | ⟨rfl, rfl⟩ | ⟨rfl, rfl⟩ | ⟨rfl, rfl⟩ | ⟨rfl, rfl⟩ | ⟨rfl, rfl⟩ | ⟨rfl, rfl⟩ | ⟨rfl, rfl⟩ | ⟨rfl, rfl⟩ | ⟨rfl, rfl⟩ | ⟨rfl, rfl⟩ | ⟨rfl, rfl⟩ | ⟨rfl, rfl⟩ | ⟨rfl, rfl⟩ | ⟨rfl, rfl⟩ | ⟨rfl, rfl⟩ | ⟨rfl, rfl⟩ | ⟨rfl, rfl⟩ | ⟨rfl, rfl⟩ | ⟨rfl, rfl⟩ | ⟨rfl, rfl⟩ | ⟨rfl, rfl⟩ | ⟨rfl, rfl⟩ | ⟨rfl, rfl⟩ | ⟨rfl, rfl⟩ | ⟨rfl, rfl⟩ | ⟨rfl, rfl⟩ | ⟨rfl, rfl⟩ | ⟨rfl, rfl⟩ | ⟨rfl, rfl⟩ | ⟨rfl, rfl⟩ | ⟨rfl, rfl⟩ | ⟨rfl, rfl⟩ | ⟨rfl, rfl⟩
  · exact cut_join hP hD [3, 4, 5, 6, 7, 8, 9, 10, 11, 12] [0, 1, 2, 13, 14, 15, 16, 17, 18, 19, 20, 21, 22, 23, 24, 25, 26, 27, 28, 29, 30, 31, 32, 33, 34, 35, 36, 37] [0, 1, 2, 28, 29, 30, 31, 32, 33, 34, 35, 36, 37, 3, 4, 5, 6, 7, 8, 9, 10, 11, 12, 13, 14, 15, 16, 17, 18, 19, 20, 21, 22, 23, 24, 25, 26, 27] (by decide) (by decide) (by decide) rfl rfl hk hF hP1 hD1 rfl
  · exact cut_join hP hD [3, 4, 5, 6, 7, 13, 14, 15, 16, 17] [0, 1, 2, 8, 9, 10, 11, 12, 18, 19, 20, 21, 22, 23, 24, 25, 26, 27, 28, 29, 30, 31, 32, 33, 34, 35, 36, 37] [0, 1, 2, 28, 29, 30, 31, 32, 3, 4, 5, 6, 7, 33, 34, 35, 36, 37, 8, 9, 10, 11, 12, 13, 14, 15, 16, 17, 18, 19, 20, 21, 22, 23, 24, 25, 26, 27] (by decide) (by decide) (by decide) rfl rfl hk hF hP1 hD1 rfl
  · exact cut_join hP hD [3, 4, 5, 6, 7, 18, 19, 20, 21, 22] [0, 1, 2, 8, 9, 10, 11, 12, 13, 14, 15, 16, 17, 23, 24, 25, 26, 27, 28, 29, 30, 31, 32, 33, 34, 35, 36, 37] [0, 1, 2, 28, 29, 30, 31, 32, 3, 4, 5, 6, 7, 8, 9, 10, 11, 12, 33, 34, 35, 36, 37, 13, 14, 15, 16, 17, 18, 19, 20, 21, 22, 23, 24, 25, 26, 27] (by decide) (by decide) (by decide) rfl rfl hk hF hP1 hD1 rfl
  · exact cut_join hP hD [3, 4, 5, 6, 7, 23, 24, 25, 26, 27] [0, 1, 2, 8, 9, 10, 11, 12, 13, 14, 15, 16, 17, 18, 19, 20, 21, 22, 28, 29, 30, 31, 32, 33, 34, 35, 36, 37] [0, 1, 2, 28, 29, 30, 31, 32, 3, 4, 5, 6, 7, 8, 9, 10, 11, 12, 13, 14, 15, 16, 17, 33, 34, 35, 36, 37, 18, 19, 20, 21, 22, 23, 24, 25, 26, 27] (by decide) (by decide) (by decide) rfl rfl hk hF hP1 hD1 rfl
  · exact cut_join hP hD [3, 4, 5, 6, 7, 28, 29, 30, 31, 32] [0, 1, 2, 8, 9, 10, 11, 12, 13, 14, 15, 16, 17, 18, 19, 20, 21, 22, 23, 24, 25, 26, 27, 33, 34, 35, 36, 37] [0, 1, 2, 28, 29, 30, 31, 32, 3, 4, 5, 6, 7, 8, 9, 10, 11, 12, 13, 14, 15, 16, 17, 18, 19, 20, 21, 22, 33, 34, 35, 36, 37, 23, 24, 25, 26, 27] (by decide) (by decide) (by decide) rfl rfl hk hF hP1 hD1 rfl
  · exact cut_join hP hD [3, 4, 5, 6, 7, 33, 34, 35, 36, 37] [0, 1, 2, 8, 9, 10, 11, 12, 13, 14, 15, 16, 17, 18, 19, 20, 21, 22, 23, 24, 25, 26, 27, 28, 29, 30, 31, 32] [0, 1, 2, 28, 29, 30, 31, 32, 3, 4, 5, 6, 7, 8, 9, 10, 11, 12, 13, 14, 15, 16, 17, 18, 19, 20, 21, 22, 23, 24, 25, 26, 27, 33, 34, 35, 36, 37] (by decide) (by decide) (by decide) rfl rfl hk hF hP1 hD1 rfl
  · exact cut_join hP hD [8, 9, 10, 11, 12, 3, 4, 5, 6, 7] [0, 1, 2, 13, 14, 15, 16, 17, 18, 19, 20, 21, 22, 23, 24, 25, 26, 27, 28, 29, 30, 31, 32, 33, 34, 35, 36, 37] [0, 1, 2, 33, 34, 35, 36, 37, 28, 29, 30, 31, 32, 3, 4, 5, 6, 7, 8, 9, 10, 11, 12, 13, 14, 15, 16, 17, 18, 19, 20, 21, 22, 23, 24, 25, 26, 27] (by decide) (by decide) (by decide) rfl rfl hk hF hP1 hD1 rfl
  · exact cut_join hP hD [8, 9, 10, 11, 12, 13, 14, 15, 16, 17] [0, 1, 2, 3, 4, 5, 6, 7, 18, 19, 20, 21, 22, 23, 24, 25, 26, 27, 28, 29, 30, 31, 32, 33, 34, 35, 36, 37] [0, 1, 2, 3, 4, 5, 6, 7, 28, 29, 30, 31, 32, 33, 34, 35, 36, 37, 8, 9, 10, 11, 12, 13, 14, 15, 16, 17, 18, 19, 20, 21, 22, 23, 24, 25, 26, 27] (by decide) (by decide) (by decide) rfl rfl hk hF hP1 hD1 rfl
  · exact cut_join hP hD [8, 9, 10, 11, 12, 18, 19, 20, 21, 22] [0, 1, 2, 3, 4, 5, 6, 7, 13, 14, 15, 16, 17, 23, 24, 25, 26, 27, 28, 29, 30, 31, 32, 33, 34, 35, 36, 37] [0, 1, 2, 3, 4, 5, 6, 7, 28, 29, 30, 31, 32, 8, 9, 10, 11, 12, 33, 34, 35, 36, 37, 13, 14, 15, 16, 17, 18, 19, 20, 21, 22, 23, 24, 25, 26, 27] (by decide) (by decide) (by decide) rfl rfl hk hF hP1 hD1 rfl
  · exact cut_join hP hD [8, 9, 10, 11, 12, 23, 24, 25, 26, 27] [0, 1, 2, 3, 4, 5, 6, 7, 13, 14, 15, 16, 17, 18, 19, 20, 21, 22, 28, 29, 30, 31, 32, 33, 34, 35, 36, 37] [0, 1, 2, 3, 4, 5, 6, 7, 28, 29, 30, 31, 32, 8, 9, 10, 11, 12, 13, 14, 15, 16, 17, 33, 34, 35, 36, 37, 18, 19, 20, 21, 22, 23, 24, 25, 26, 27] (by decide) (by decide) (by decide) rfl rfl hk hF hP1 hD1 rfl
  · exact cut_join hP hD [8, 9, 10, 11, 12, 28, 29, 30, 31, 32] [0, 1, 2, 3, 4, 5, 6, 7, 13, 14, 15, 16, 17, 18, 19, 20, 21, 22, 23, 24, 25, 26, 27, 33, 34, 35, 36, 37] [0, 1, 2, 3, 4, 5, 6, 7, 28, 29, 30, 31, 32, 8, 9, 10, 11, 12, 13, 14, 15, 16, 17, 18, 19, 20, 21, 22, 33, 34, 35, 36, 37, 23, 24, 25, 26, 27] (by decide) (by decide) (by decide) rfl rfl hk hF hP1 hD1 rfl
  · exact cut_join hP hD [8, 9, 10, 11, 12, 33, 34, 35, 36, 37] [0, 1, 2, 3, 4, 5, 6, 7, 13, 14, 15, 16, 17, 18, 19, 20, 21, 22, 23, 24, 25, 26, 27, 28, 29, 30, 31, 32] [0, 1, 2, 3, 4, 5, 6, 7, 28, 29, 30, 31, 32, 8, 9, 10, 11, 12, 13, 14, 15, 16, 17, 18, 19, 20, 21, 22, 23, 24, 25, 26, 27, 33, 34, 35, 36, 37] (by decide) (by decide) (by decide) rfl rfl hk hF hP1 hD1 rfl
  · exact cut_join hP hD [13, 14, 15, 16, 17, 3, 4, 5, 6, 7] [0, 1, 2, 8, 9, 10, 11, 12, 18, 19, 20, 21, 22, 23, 24, 25, 26, 27, 28, 29, 30, 31, 32, 33, 34, 35, 36, 37] [0, 1, 2, 33, 34, 35, 36, 37, 3, 4, 5, 6, 7, 28, 29, 30, 31, 32, 8, 9, 10, 11, 12, 13, 14, 15, 16, 17, 18, 19, 20, 21, 22, 23, 24, 25, 26, 27] (by decide) (by decide) (by decide) rfl rfl hk hF hP1 hD1 rfl
  · exact cut_join hP hD [13, 14, 15, 16, 17, 8, 9, 10, 11, 12] [0, 1, 2, 3, 4, 5, 6, 7, 18, 19, 20, 21, 22, 23, 24, 25, 26, 27, 28, 29, 30, 31, 32, 33, 34, 35, 36, 37] [0, 1, 2, 3, 4, 5, 6, 7, 33, 34, 35, 36, 37, 28, 29, 30, 31, 32, 8, 9, 10, 11, 12, 13, 14, 15, 16, 17, 18, 19, 20, 21, 22, 23, 24, 25, 26, 27] (by decide) (by decide) (by decide) rfl rfl hk hF hP1 hD1 rfl
  · exact cut_join hP hD [13, 14, 15, 16, 17, 18, 19, 20, 21, 22] [0, 1, 2, 3, 4, 5, 6, 7, 8, 9, 10, 11, 12, 23, 24, 25, 26, 27, 28, 29, 30, 31, 32, 33, 34, 35, 36, 37] [0, 1, 2, 3, 4, 5, 6, 7, 8, 9, 10, 11, 12, 28, 29, 30, 31, 32, 33, 34, 35, 36, 37, 13, 14, 15, 16, 17, 18, 19, 20, 21, 22, 23, 24, 25, 26, 27] (by decide) (by decide) (by decide) rfl rfl hk hF hP1 hD1 rfl
  · exact cut_join hP hD [13, 14, 15, 16, 17, 23, 24, 25, 26, 27] [0, 1, 2, 3, 4, 5, 6, 7, 8, 9, 10, 11, 12, 18, 19, 20, 21, 22, 28, 29, 30, 31, 32, 33, 34, 35, 36, 37] [0, 1, 2, 3, 4, 5, 6, 7, 8, 9, 10, 11, 12, 28, 29, 30, 31, 32, 13, 14, 15, 16, 17, 33, 34, 35, 36, 37, 18, 19, 20, 21, 22, 23, 24, 25, 26, 27] (by decide) (by decide) (by decide) rfl rfl hk hF hP1 hD1 rfl
  · exact cut_join hP hD [13, 14, 15, 16, 17, 28, 29, 30, 31, 32] [0, 1, 2, 3, 4, 5, 6, 7, 8, 9, 10, 11, 12, 18, 19, 20, 21, 22, 23, 24, 25, 26, 27, 33, 34, 35, 36, 37] [0, 1, 2, 3, 4, 5, 6, 7, 8, 9, 10, 11, 12, 28, 29, 30, 31, 32, 13, 14, 15, 16, 17, 18, 19, 20, 21, 22, 33, 34, 35, 36, 37, 23, 24, 25, 26, 27] (by decide) (by decide) (by decide) rfl rfl hk hF hP1 hD1 rfl
  · exact cut_join hP hD [13, 14, 15, 16, 17, 33, 34, 35, 36, 37] [0, 1, 2, 3, 4, 5, 6, 7, 8, 9, 10, 11, 12, 18, 19, 20, 21, 22, 23, 24, 25, 26, 27, 28, 29, 30, 31, 32] [0, 1, 2, 3, 4, 5, 6, 7, 8, 9, 10, 11, 12, 28, 29, 30, 31, 32, 13, 14, 15, 16, 17, 18, 19, 20, 21, 22, 23, 24, 25, 26, 27, 33, 34, 35, 36, 37] (by decide) (by decide) (by decide) rfl rfl hk hF hP1 hD1 rfl
  · exact cut_join hP hD [18, 19, 20, 21, 22, 3, 4, 5, 6, 7] [0, 1, 2, 8, 9, 10, 11, 12, 13, 14, 15, 16, 17, 23, 24, 25, 26, 27, 28, 29, 30, 31, 32, 33, 34, 35, 36, 37] [0, 1, 2, 33, 34, 35, 36, 37, 3, 4, 5, 6, 7, 8, 9, 10, 11, 12, 28, 29, 30, 31, 32, 13, 14, 15, 16, 17, 18, 19, 20, 21, 22, 23, 24, 25, 26, 27] (by decide) (by decide) (by decide) rfl rfl hk hF hP1 hD1 rfl
  · exact cut_join hP hD [18, 19, 20, 21, 22, 8, 9, 10, 11, 12] [0, 1, 2, 3, 4, 5, 6, 7, 13, 14, 15, 16, 17, 23, 24, 25, 26, 27, 28, 29, 30, 31, 32, 33, 34, 35, 36, 37] [0, 1, 2, 3, 4, 5, 6, 7, 33, 34, 35, 36, 37, 8, 9, 10, 11, 12, 28, 29, 30, 31, 32, 13, 14, 15, 16, 17, 18, 19, 20, 21, 22, 23, 24, 25, 26, 27] (by decide) (by decide) (by decide) rfl rfl hk hF hP1 hD1 rfl
  · exact cut_join hP hD [18, 19, 20, 21, 22, 13, 14, 15, 16, 17] [0, 1, 2, 3, 4, 5, 6, 7, 8, 9, 10, 11, 12, 23, 24, 25, 26, 27, 28, 29, 30, 31, 32, 33, 34, 35, 36, 37] [0, 1, 2, 3, 4, 5, 6, 7, 8, 9, 10, 11, 12, 33, 34, 35, 36, 37, 28, 29, 30, 31, 32, 13, 14, 15, 16, 17, 18, 19, 20, 21, 22, 23, 24, 25, 26, 27] (by decide) (by decide) (by decide) rfl rfl hk hF hP1 hD1 rfl
  · exact cut_join hP hD [18, 19, 20, 21, 22, 23, 24, 25, 26, 27] [0, 1, 2, 3, 4, 5, 6, 7, 8, 9, 10, 11, 12, 13, 14, 15, 16, 17, 28, 29, 30, 31, 32, 33, 34, 35, 36, 37] [0, 1, 2, 3, 4, 5, 6, 7, 8, 9, 10, 11, 12, 13, 14, 15, 16, 17, 28, 29, 30, 31, 32, 33, 34, 35, 36, 37, 18, 19, 20, 21, 22, 23, 24, 25, 26, 27] (by decide) (by decide) (by decide) rfl rfl hk hF hP1 hD1 rfl
  · exact cut_join hP hD [18, 19, 20, 21, 22, 28, 29, 30, 31, 32] [0, 1, 2, 3, 4, 5, 6, 7, 8, 9, 10, 11, 12, 13, 14, 15, 16, 17, 23, 24, 25, 26, 27, 33, 34, 35, 36, 37] [0, 1, 2, 3, 4, 5, 6, 7, 8, 9, 10, 11, 12, 13, 14, 15, 16, 17, 28, 29, 30, 31, 32, 18, 19, 20, 21, 22, 33, 34, 35, 36, 37, 23, 24, 25, 26, 27] (by decide) (by decide) (by decide) rfl rfl hk hF hP1 hD1 rfl
  · exact cut_join hP hD [18, 19, 20, 21, 22, 33, 34, 35, 36, 37] [0, 1, 2, 3, 4, 5, 6, 7, 8, 9, 10, 11, 12, 13, 14, 15, 16, 17, 23, 24, 25, 26, 27, 28, 29, 30, 31, 32] [0, 1, 2, 3, 4, 5, 6, 7, 8, 9, 10, 11, 12, 13, 14, 15, 16, 17, 28, 29, 30, 31, 32, 18, 19, 20, 21, 22, 23, 24, 25, 26, 27, 33, 34, 35, 36, 37] (by decide) (by decide) (by decide) rfl rfl hk hF hP1 hD1 rfl
  · exact cut_join hP hD [23, 24, 25, 26, 27, 3, 4, 5, 6, 7] [0, 1, 2, 8, 9, 10, 11, 12, 13, 14, 15, 16, 17, 18, 19, 20, 21, 22, 28, 29, 30, 31, 32, 33, 34, 35, 36, 37] [0, 1, 2, 33, 34, 35, 36, 37, 3, 4, 5, 6, 7, 8, 9, 10, 11, 12, 13, 14, 15, 16, 17, 28, 29, 30, 31, 32, 18, 19, 20, 21, 22, 23, 24, 25, 26, 27] (by decide) (by decide) (by decide) rfl rfl hk hF hP1 hD1 rfl
  · exact cut_join hP hD [23, 24, 25, 26, 27, 8, 9, 10, 11, 12] [0, 1, 2, 3, 4, 5, 6, 7, 13, 14, 15, 16, 17, 18, 19, 20, 21, 22, 28, 29, 30, 31, 32, 33, 34, 35, 36, 37] [0, 1, 2, 3, 4, 5, 6, 7, 33, 34, 35, 36, 37, 8, 9, 10, 11, 12, 13, 14, 15, 16, 17, 28, 29, 30, 31, 32, 18, 19, 20, 21, 22, 23, 24, 25, 26, 27] (by decide) (by decide) (by decide) rfl rfl hk hF hP1 hD1 rfl
  · exact cut_join hP hD [23, 24, 25, 26, 27, 13, 14, 15, 16, 17] [0, 1, 2, 3, 4, 5, 6, 7, 8, 9, 10, 11, 12, 18, 19, 20, 21, 22, 28, 29, 30, 31, 32, 33, 34, 35, 36, 37] [0, 1, 2, 3, 4, 5, 6, 7, 8, 9, 10, 11, 12, 33, 34, 35, 36, 37, 13, 14, 15, 16, 17, 28, 29, 30, 31, 32, 18, 19, 20, 21, 22, 23, 24, 25, 26, 27] (by decide) (by decide) (by decide) rfl rfl hk hF hP1 hD1 rfl
  · exact cut_join hP hD [23, 24, 25, 26, 27, 18, 19, 20, 21, 22] [0, 1, 2, 3, 4, 5, 6, 7, 8, 9, 10, 11, 12, 13, 14, 15, 16, 17, 28, 29, 30, 31, 32, 33, 34, 35, 36, 37] [0, 1, 2, 3, 4, 5, 6, 7, 8, 9, 10, 11, 12, 13, 14, 15, 16, 17, 33, 34, 35, 36, 37, 28, 29, 30, 31, 32, 18, 19, 20, 21, 22, 23, 24, 25, 26, 27] (by decide) (by decide) (by decide) rfl rfl hk hF hP1 hD1 rfl
  · exact cut_join hP hD [23, 24, 25, 26, 27, 28, 29, 30, 31, 32] [0, 1, 2, 3, 4, 5, 6, 7, 8, 9, 10, 11, 12, 13, 14, 15, 16, 17, 18, 19, 20, 21, 22, 33, 34, 35, 36, 37] [0, 1, 2, 3, 4, 5, 6, 7, 8, 9, 10, 11, 12, 13, 14, 15, 16, 17, 18, 19, 20, 21, 22, 28, 29, 30, 31, 32, 33, 34, 35, 36, 37, 23, 24, 25, 26, 27] (by decide) (by decide) (by decide) rfl rfl hk hF hP1 hD1 rfl
  · exact cut_join hP hD [23, 24, 25, 26, 27, 33, 34, 35, 36, 37] [0, 1, 2, 3, 4, 5, 6, 7, 8, 9, 10, 11, 12, 13, 14, 15, 16, 17, 18, 19, 20, 21, 22, 28, 29, 30, 31, 32] [0, 1, 2, 3, 4, 5, 6, 7, 8, 9, 10, 11, 12, 13, 14, 15, 16, 17, 18, 19, 20, 21, 22, 28, 29, 30, 31, 32, 23, 24, 25, 26, 27, 33, 34, 35, 36, 37] (by decide) (by decide) (by decide) rfl rfl hk hF hP1 hD1 rfl
  · exact cut_join hP hD [28, 29, 30, 31, 32, 3, 4, 5, 6, 7] [0, 1, 2, 8, 9, 10, 11, 12, 13, 14, 15, 16, 17, 18, 19, 20, 21, 22, 23, 24, 25, 26, 27, 33, 34, 35, 36, 37] [0, 1, 2, 33, 34, 35, 36, 37, 3, 4, 5, 6, 7, 8, 9, 10, 11, 12, 13, 14, 15, 16, 17, 18, 19, 20, 21, 22, 28, 29, 30, 31, 32, 23, 24, 25, 26, 27] (by decide) (by decide) (by decide) rfl rfl hk hF hP1 hD1 rfl
  · exact cut_join hP hD [28, 29, 30, 31, 32, 8, 9, 10, 11, 12] [0, 1, 2, 3, 4, 5, 6, 7, 13, 14, 15, 16, 17, 18, 19, 20, 21, 22, 23, 24, 25, 26, 27, 33, 34, 35, 36, 37] [0, 1, 2, 3, 4, 5, 6, 7, 33, 34, 35, 36, 37, 8, 9, 10, 11, 12, 13, 14, 15, 16, 17, 18, 19, 20, 21, 22, 28, 29, 30, 31, 32, 23, 24, 25, 26, 27] (by decide) (by decide) (by decide) rfl rfl hk hF hP1 hD1 rfl
  · exact cut_join hP hD [28, 29, 30, 31, 32, 13, 14, 15, 16, 17] [0, 1, 2, 3, 4, 5, 6, 7, 8, 9, 10, 11, 12, 18, 19, 20, 21, 22, 23, 24, 25, 26, 27, 33, 34, 35, 36, 37] [0, 1, 2, 3, 4, 5, 6, 7, 8, 9, 10, 11, 12, 33, 34, 35, 36, 37, 13, 14, 15, 16, 17, 18, 19, 20, 21, 22, 28, 29, 30, 31, 32, 23, 24, 25, 26, 27] (by decide) (by decide) (by decide) rfl rfl hk hF hP1 hD1 rfl
  · exact cut_join hP hD [28, 29, 30, 31, 32, 18, 19, 20, 21, 22] [0, 1, 2, 3, 4, 5, 6, 7, 8, 9, 10, 11, 12, 13, 14, 15, 16, 17, 23, 24, 25, 26, 27, 33, 34, 35, 36, 37] [0, 1, 2, 3, 4, 5, 6, 7, 8, 9, 10, 11, 12, 13, 14, 15, 16, 17, 33, 34, 35, 36, 37, 18, 19, 20, 21, 22, 28, 29, 30, 31, 32, 23, 24, 25, 26, 27] (by decide) (by decide) (by decide) rfl rfl hk hF hP1 hD1 rfl
  · exact cut_join hP hD [28, 29, 30, 31, 32, 23, 24, 25, 26, 27] [0, 1, 2, 3, 4, 5, 6, 7, 8, 9, 10, 11, 12, 13, 14, 15, 16, 17, 18, 19, 20, 21, 22, 33, 34, 35, 36, 37] [0, 1, 2, 3, 4, 5, 6, 7, 8, 9, 10, 11, 12, 13, 14, 15, 16, 17, 18, 19, 20, 21, 22, 33, 34, 35, 36, 37, 28, 29, 30, 31, 32, 23, 24, 25, 26, 27] (by decide) (by decide) (by decide) rfl rfl hk hF hP1 hD1 rfl
  · exact cut_join hP hD [28, 29, 30, 31, 32, 33, 34, 35, 36, 37] [0, 1, 2, 3, 4, 5, 6, 7, 8, 9, 10, 11, 12, 13, 14, 15, 16, 17, 18, 19, 20, 21, 22, 23, 24, 25, 26, 27] [0, 1, 2, 3, 4, 5, 6, 7, 8, 9, 10, 11, 12, 13, 14, 15, 16, 17, 18, 19, 20, 21, 22, 23, 24, 25, 26, 27, 28, 29, 30, 31, 32, 33, 34, 35, 36, 37] (by decide) (by decide) (by decide) rfl rfl hk hF hP1 hD1 rfl
  · exact cut_join hP hD [33, 34, 35, 36, 37, 3, 4, 5, 6, 7] [0, 1, 2, 8, 9, 10, 11, 12, 13, 14, 15, 16, 17, 18, 19, 20, 21, 22, 23, 24, 25, 26, 27, 28, 29, 30, 31, 32] [0, 1, 2, 33, 34, 35, 36, 37, 3, 4, 5, 6, 7, 8, 9, 10, 11, 12, 13, 14, 15, 16, 17, 18, 19, 20, 21, 22, 23, 24, 25, 26, 27, 28, 29, 30, 31, 32] (by decide) (by decide) (by decide) rfl rfl hk hF hP1 hD1 rfl
  · exact cut_join hP hD [33, 34, 35, 36, 37, 8, 9, 10, 11, 12] [0, 1, 2, 3, 4, 5, 6, 7, 13, 14, 15, 16, 17, 18, 19, 20, 21, 22, 23, 24, 25, 26, 27, 28, 29, 30, 31, 32] [0, 1, 2, 3, 4, 5, 6, 7, 33, 34, 35, 36, 37, 8, 9, 10, 11, 12, 13, 14, 15, 16, 17, 18, 19, 20, 21, 22, 23, 24, 25, 26, 27, 28, 29, 30, 31, 32] (by decide) (by decide) (by decide) rfl rfl hk hF hP1 hD1 rfl
  · exact cut_join hP hD [33, 34, 35, 36, 37, 13, 14, 15, 16, 17] [0, 1, 2, 3, 4, 5, 6, 7, 8, 9, 10, 11, 12, 18, 19, 20, 21, 22, 23, 24, 25, 26, 27, 28, 29, 30, 31, 32] [0, 1, 2, 3, 4, 5, 6, 7, 8, 9, 10, 11, 12, 33, 34, 35, 36, 37, 13, 14, 15, 16, 17, 18, 19, 20, 21, 22, 23, 24, 25, 26, 27, 28, 29, 30, 31, 32] (by decide) (by decide) (by decide) rfl rfl hk hF hP1 hD1 rfl
  · exact cut_join hP hD [33, 34, 35, 36, 37, 18, 19, 20, 21, 22] [0, 1, 2, 3, 4, 5, 6, 7, 8, 9, 10, 11, 12, 13, 14, 15, 16, 17, 23, 24, 25, 26, 27, 28, 29, 30, 31, 32] [0, 1, 2, 3, 4, 5, 6, 7, 8, 9, 10, 11, 12, 13, 14, 15, 16, 17, 33, 34, 35, 36, 37, 18, 19, 20, 21, 22, 23, 24, 25, 26, 27, 28, 29, 30, 31, 32] (by decide) (by decide) (by decide) rfl rfl hk hF hP1 hD1 rfl
  · exact cut_join hP hD [33, 34, 35, 36, 37, 23, 24, 25, 26, 27] [0, 1, 2, 3, 4, 5, 6, 7, 8, 9, 10, 11, 12, 13, 14, 15, 16, 17, 18, 19, 20, 21, 22, 28, 29, 30, 31, 32] [0, 1, 2, 3, 4, 5, 6, 7, 8, 9, 10, 11, 12, 13, 14, 15, 16, 17, 18, 19, 20, 21, 22, 33, 34, 35, 36, 37, 23, 24, 25, 26, 27, 28, 29, 30, 31, 32] (by decide) (by decide) (by decide) rfl rfl hk hF hP1 hD1 rfl
  · exact cut_join hP hD [33, 34, 35, 36, 37, 28, 29, 30, 31, 32] [0, 1, 2, 3, 4, 5, 6, 7, 8, 9, 10, 11, 12, 13, 14, 15, 16, 17, 18, 19, 20, 21, 22, 23, 24, 25, 26, 27] [0, 1, 2, 3, 4, 5, 6, 7, 8, 9, 10, 11, 12, 13, 14, 15, 16, 17, 18, 19, 20, 21, 22, 23, 24, 25, 26, 27, 33, 34, 35, 36, 37, 28, 29, 30, 31, 32] (by decide) (by decide) (by decide) rfl rfl hk hF hP1 hD1 rfl

set_option maxRecDepth 100000 in
set_option maxHeartbeats 4000000 in
theorem fc5_P {D : va_G} {k : Nat → ClassId} {a b : Nat → Nat} {S0 : St × (Nat → St)} {S1 : St} {H : Heap} (hP : va_P D vwCl (wEv k a S0 ++ wFl k b S1) H) : va_P D vwCl (wEv k a S0) H := by
  exact hP.sub [0, 1, 2, 3, 4, 5, 6, 7, 8, 9, 10, 11, 12, 13, 14, 15, 16, 17, 18, 19, 20, 21, 22, 23, 24, 25, 26, 27, 28, 29, 30, 31, 32, 33, 34, 35, 36, 37] rfl
set_option maxRecDepth 100000 in
set_option maxHeartbeats 4000000 in
theorem fc5_D {k : Nat → ClassId} {a b : Nat → Nat} {S0 : St × (Nat → St)} {S1 : St} {A : Nat → Prop} (hD : va_D A (wEv k a S0 ++ wFl k b S1)) : va_D A (wEv k a S0) := by
  exact hD.sub [0, 1, 2, 3, 4, 5, 6, 7, 8, 9, 10, 11, 12, 13, 14, 15, 16, 17, 18, 19, 20, 21, 22, 23, 24, 25, 26, 27, 28, 29, 30, 31, 32, 33, 34, 35, 36, 37] (by decide) rfl
set_option maxRecDepth 100000 in
set_option maxHeartbeats 4000000 in
theorem fc5_J {D : va_G} {k : Nat → ClassId} {a b : Nat → Nat} {S0 : St × (Nat → St)} {S1 : St} {H : Heap} {H1 : Heap} {A0 : Nat → Prop} {T0 : St × (Nat → St)} (hP : va_P D vwCl (wEv k a S0 ++ wFl k b S1) H) (hD : va_D A0 (wEv k a S0 ++ wFl k b S1)) (hk : ∀ q : Nat, q < H.size → ¬ va_A (wEv k a S0) H.size q → H1[q]? = H[q]?) (hF : ∀ q, va_A (wEv k a S0) H.size q → A0 q) (hP1 : va_P D vwCl (wEv k a T0) H1) (hD1 : va_D (va_A (wEv k a S0) H.size) (wEv k a T0)) : va_P D vwCl (wEv k a T0 ++ wFl k b S1) H1 ∧ va_D A0 (wEv k a T0 ++ wFl k b S1) := by
  exact cut_join hP hD [0, 1, 2, 3, 4, 5, 6, 7, 8, 9, 10, 11, 12, 13, 14, 15, 16, 17, 18, 19, 20, 21, 22, 23, 24, 25, 26, 27, 28, 29, 30, 31, 32, 33, 34, 35, 36, 37] [38, 39, 40, 41, 42] [5, 6, 7, 8, 9, 10, 11, 12, 13, 14, 15, 16, 17, 18, 19, 20, 21, 22, 23, 24, 25, 26, 27, 28, 29, 30, 31, 32, 33, 34, 35, 36, 37, 38, 39, 40, 41, 42, 0, 1, 2, 3, 4] (by decide) (by decide) (by decide) rfl rfl hk hF hP1 hD1 rfl

set_option maxRecDepth 100000 in
set_option maxHeartbeats 4000000 in
theorem fc6_P {D : va_G} {k : Nat → ClassId} {a b : Nat → Nat} {S0 : Nat → St} {S1 : St} {H : Heap} (hP : va_P D vwCl (wHo k a S0 ++ wFl k b S1) H) : va_P D vwCl (wEn k (sh a 2) (S0 0) ++ wFl k b S1) H := by
  exact hP.sub [2, 3, 4, 5, 18, 19, 20, 21, 22] rfl
set_option maxRecDepth 100000 in
set_option maxHeartbeats 4000000 in
theorem fc6_D {k : Nat → ClassId} {a b : Nat → Nat} {S0 : Nat → St} {S1 : St} {A : Nat → Prop} (hD : va_D A (wHo k a S0 ++ wFl k b S1)) : va_D A (wEn k (sh a 2) (S0 0) ++ wFl k b S1) := by
  exact hD.sub [2, 3, 4, 5, 18, 19, 20, 21, 22] (by decide) rfl
set_option maxRecDepth 100000 in
set_option maxHeartbeats 4000000 in
theorem fc6_J {D : va_G} {k : Nat → ClassId} {a b : Nat → Nat} {S0 : Nat → St} {S1 : St} {H : Heap} {H1 : Heap} {A0 : Nat → Prop} {T0 : St} {T1 : St} (hP : va_P D vwCl (wHo k a S0 ++ wFl k b S1) H) (hD : va_D A0 (wHo k a S0 ++ wFl k b S1)) (hk : ∀ q : Nat, q < H.size → ¬ va_A (wEn k (sh a 2) (S0 0) ++ wFl k b S1) H.size q → H1[q]? = H[q]?) (hF : ∀ q, va_A (wEn k (sh a 2) (S0 0) ++ wFl k b S1) H.size q → A0 q) (hP1 : va_P D vwCl (wEn k (sh a 2) T0 ++ wFl k b T1) H1) (hD1 : va_D (va_A (wEn k (sh a 2) (S0 0) ++ wFl k b S1) H.size) (wEn k (sh a 2) T0 ++ wFl k b T1)) : va_P D vwCl (wHo k a (va_up S0 0 T0) ++ wFl k b T1) H1 ∧ va_D A0 (wHo k a (va_up S0 0 T0) ++ wFl k b T1) := by
  exact cut_join hP hD [2, 3, 4, 5, 18, 19, 20, 21, 22] [0, 1, 6, 7, 8, 9, 10, 11, 12, 13, 14, 15, 16, 17] [0, 1, 14, 15, 16, 17, 2, 3, 4, 5, 6, 7, 8, 9, 10, 11, 12, 13, 18, 19, 20, 21, 22] (by decide) (by decide) (by decide) rfl rfl hk hF hP1 hD1 rfl

set_option maxRecDepth 100000 in
set_option maxHeartbeats 4000000 in
theorem fc7_P {D : va_G} {k : Nat → ClassId} {a b : Nat → Nat} {S0 : Nat → St} {S1 : St} {H : Heap} (hP : va_P D vwCl (wHo k a S0 ++ wFl k b S1) H) : va_P D vwCl (wEn k (sh a 2) (S0 0)) H := by
  exact hP.sub [2, 3, 4, 5] rfl
set_option maxRecDepth 100000 in
set_option maxHeartbeats 4000000 in
theorem fc7_D {k : Nat → ClassId} {a b : Nat → Nat} {S0 : Nat → St} {S1 : St} {A : Nat → Prop} (hD : va_D A (wHo k a S0 ++ wFl k b S1)) : va_D A (wEn k (sh a 2) (S0 0)) := by
  exact hD.sub [2, 3, 4, 5] (by decide) rfl
set_option maxRecDepth 100000 in
set_option maxHeartbeats 4000000 in
theorem fc7_J {D : va_G} {k : Nat → ClassId} {a b : Nat → Nat} {S0 : Nat → St} {S1 : St} {H : Heap} {H1 : Heap} {A0 : Nat → Prop} {T0 : St} (hP : va_P D vwCl (wHo k a S0 ++ wFl k b S1) H) (hD : va_D A0 (wHo k a S0 ++ wFl k b S1)) (hk : ∀ q : Nat, q < H.size → ¬ va_A (wEn k (sh a 2) (S0 0)) H.size q → H1[q]? = H[q]?) (hF : ∀ q, va_A (wEn k (sh a 2) (S0 0)) H.size q → A0 q) (hP1 : va_P D vwCl (wEn k (sh a 2) T0) H1) (hD1 : va_D (va_A (wEn k (sh a 2) (S0 0)) H.size) (wEn k (sh a 2) T0)) : va_P D vwCl (wHo k a (va_up S0 0 T0) ++ wFl k b S1) H1 ∧ va_D A0 (wHo k a (va_up S0 0 T0) ++ wFl k b S1) := by
  exact cut_join hP hD [2, 3, 4, 5] [0, 1, 6, 7, 8, 9, 10, 11, 12, 13, 14, 15, 16, 17, 18, 19, 20, 21, 22] [0, 1, 19, 20, 21, 22, 2, 3, 4, 5, 6, 7, 8, 9, 10, 11, 12, 13, 14, 15, 16, 17, 18] (by decide) (by decide) (by decide) rfl rfl hk hF hP1 hD1 rfl

set_option maxRecDepth 100000 in
set_option maxHeartbeats 4000000 in
theorem fc8_P {D : va_G} {k : Nat → ClassId} {a b : Nat → Nat} {S0 : Nat → St} {S1 : St} {H : Heap} (hP : va_P D vwCl (wHo k a S0 ++ wFl k b S1) H) : va_P D vwCl (wFl k b S1) H := by
  exact hP.sub [18, 19, 20, 21, 22] rfl
set_option maxRecDepth 100000 in
set_option maxHeartbeats 4000000 in
theorem fc8_D {k : Nat → ClassId} {a b : Nat → Nat} {S0 : Nat → St} {S1 : St} {A : Nat → Prop} (hD : va_D A (wHo k a S0 ++ wFl k b S1)) : va_D A (wFl k b S1) := by
  exact hD.sub [18, 19, 20, 21, 22] (by decide) rfl
set_option maxRecDepth 100000 in
set_option maxHeartbeats 4000000 in
theorem fc8_J {D : va_G} {k : Nat → ClassId} {a b : Nat → Nat} {S0 : Nat → St} {S1 : St} {H : Heap} {H1 : Heap} {A0 : Nat → Prop} {T0 : St} (hP : va_P D vwCl (wHo k a S0 ++ wFl k b S1) H) (hD : va_D A0 (wHo k a S0 ++ wFl k b S1)) (hk : ∀ q : Nat, q < H.size → ¬ va_A (wFl k b S1) H.size q → H1[q]? = H[q]?) (hF : ∀ q, va_A (wFl k b S1) H.size q → A0 q) (hP1 : va_P D vwCl (wFl k b T0) H1) (hD1 : va_D (va_A (wFl k b S1) H.size) (wFl k b T0)) : va_P D vwCl (wHo k a S0 ++ wFl k b T0) H1 ∧ va_D A0 (wHo k a S0 ++ wFl k b T0) := by
  exact cut_join hP hD [18, 19, 20, 21, 22] [0, 1, 2, 3, 4, 5, 6, 7, 8, 9, 10, 11, 12, 13, 14, 15, 16, 17] [0, 1, 2, 3, 4, 5, 6, 7, 8, 9, 10, 11, 12, 13, 14, 15, 16, 17, 18, 19, 20, 21, 22] (by decide) (by decide) (by decide) rfl rfl hk hF hP1 hD1 rfl

set_option maxRecDepth 100000 in
set_option maxHeartbeats 4000000 in
theorem fc9_P {D : va_G} {k : Nat → ClassId} {a b : Nat → Nat} {S0 : Nat → St} {S1 : St} {H : Heap} {j1 : Nat} (hj1 : j1 < 4) (hP : va_P D vwCl (wHo k a S0 ++ wFl k b S1) H) : va_P D vwCl (wEn k (sh a (2 + 4 * j1)) (S0 j1)) H := by
  rcases (show j1 = 0 ∨ j1 = 1 ∨ j1 = 2 ∨ j1 = 3 by omega) with rfl | rfl | rfl | rfl
  · exact hP.sub [2, 3, 4, 5] rfl
  · exact hP.sub [6, 7, 8, 9] rfl
  · exact hP.sub [10, 11, 12, 13] rfl
  · exact hP.sub [14, 15, 16, 17] rfl
set_option maxRecDepth 100000 in
set_option maxHeartbeats 4000000 in
theorem fc9_D {k : Nat → ClassId} {a b : Nat → Nat} {S0 : Nat → St} {S1 : St} {A : Nat → Prop} {j1 : Nat} (hj1 : j1 < 4) (hD : va_D A (wHo k a S0 ++ wFl k b S1)) : va_D A (wEn k (sh a (2 + 4 * j1)) (S0 j1)) := by
  rcases (show j1 = 0 ∨ j1 = 1 ∨ j1 = 2 ∨ j1 = 3 by omega) with rfl | rfl | rfl | rfl
  · exact hD.sub [2, 3, 4, 5] (by decide) rfl
  · exact hD.sub [6, 7, 8, 9] (by decide) rfl
  · exact hD.sub [10, 11, 12, 13] (by decide) rfl
  · exact hD.sub [14, 15, 16, 17] (by decide) rfl
set_option maxRecDepth 100000 in
set_option maxHeartbeats 4000000 in
theorem fc9_J {D : va_G} {k : Nat → ClassId} {a b : Nat → Nat} {S0 : Nat → St} {S1 : St} {H : Heap} {H1 : Heap} {A0 : Nat → Prop} {T0 : St} {j1 : Nat} (hj1 : j1 < 4) (hP : va_P D vwCl (wHo k a S0 ++ wFl k b S1) H) (hD : va_D A0 (wHo k a S0 ++ wFl k b S1)) (hk : ∀ q : Nat, q < H.size → ¬ va_A (wEn k (sh a (2 + 4 * j1)) (S0 j1)) H.size q → H1[q]? = H[q]?) (hF : ∀ q, va_A (wEn k (sh a (2 + 4 * j1)) (S0 j1)) H.size q → A0 q) (hP1 : va_P D vwCl (wEn k (sh a (2 + 4 * j1)) T0) H1) (hD1 : va_D (va_A (wEn k (sh a (2 + 4 * j1)) (S0 j1)) H.size) (wEn k (sh a (2 + 4 * j1)) T0)) : va_P D vwCl (wHo k a (va_up S0 j1 T0) ++ wFl k b S1) H1 ∧ va_D A0 (wHo k a (va_up S0 j1 T0) ++ wFl k b S1) := by
  rcases (show j1 = 0 ∨ j1 = 1 ∨ j1 = 2 ∨ j1 = 3 by omega) with rfl | rfl | rfl | rfl
  · exact cut_join hP hD [2, 3, 4, 5] [0, 1, 6, 7, 8, 9, 10, 11, 12, 13, 14, 15, 16, 17, 18, 19, 20, 21, 22] [0, 1, 19, 20, 21, 22, 2, 3, 4, 5, 6, 7, 8, 9, 10, 11, 12, 13, 14, 15, 16, 17, 18] (by decide) (by decide) (by decide) rfl rfl hk hF hP1 hD1 rfl
  · exact cut_join hP hD [6, 7, 8, 9] [0, 1, 2, 3, 4, 5, 10, 11, 12, 13, 14, 15, 16, 17, 18, 19, 20, 21, 22] [0, 1, 2, 3, 4, 5, 19, 20, 21, 22, 6, 7, 8, 9, 10, 11, 12, 13, 14, 15, 16, 17, 18] (by decide) (by decide) (by decide) rfl rfl hk hF hP1 hD1 rfl
  · exact cut_join hP hD [10, 11, 12, 13] [0, 1, 2, 3, 4, 5, 6, 7, 8, 9, 14, 15, 16, 17, 18, 19, 20, 21, 22] [0, 1, 2, 3, 4, 5, 6, 7, 8, 9, 19, 20, 21, 22, 10, 11, 12, 13, 14, 15, 16, 17, 18] (by decide) (by decide) (by decide) rfl rfl hk hF hP1 hD1 rfl
  · exact cut_join hP hD [14, 15, 16, 17] [0, 1, 2, 3, 4, 5, 6, 7, 8, 9, 10, 11, 12, 13, 18, 19, 20, 21, 22] [0, 1, 2, 3, 4, 5, 6, 7, 8, 9, 10, 11, 12, 13, 19, 20, 21, 22, 14, 15, 16, 17, 18] (by decide) (by decide) (by decide) rfl rfl hk hF hP1 hD1 rfl

set_option maxRecDepth 100000 in
set_option maxHeartbeats 4000000 in
theorem fc10_P {D : va_G} {k : Nat → ClassId} {a b : Nat → Nat} {S0 : Nat → St} {S1 : St} {H : Heap} {j1 : Nat} (hj1 : j1 < 4) {j2 : Nat} (hj2 : j2 < 4) (hne : j1 ≠ j2) (hP : va_P D vwCl (wHo k a S0 ++ wFl k b S1) H) : va_P D vwCl (wEn k (sh a (2 + 4 * j1)) (S0 j1) ++ wEn k (sh a (2 + 4 * j2)) (S0 j2)) H := by
  rcases (show (j1 = 0 ∧ j2 = 1) ∨ (j1 = 0 ∧ j2 = 2) ∨ (j1 = 0 ∧ j2 = 3) ∨ (j1 = 1 ∧ j2 = 0) ∨ (j1 = 1 ∧ j2 = 2) ∨ (j1 = 1 ∧ j2 = 3) ∨ (j1 = 2 ∧ j2 = 0) ∨ (j1 = 2 ∧ j2 = 1) ∨ (j1 = 2 ∧ j2 = 3) ∨ (j1 = 3 ∧ j2 = 0) ∨ (j1 = 3 ∧ j2 = 1) ∨ (j1 = 3 ∧ j2 = 2) by omega) with ⟨rfl, rfl⟩ | ⟨rfl, rfl⟩ | ⟨rfl, rfl⟩ | ⟨rfl, rfl⟩ | ⟨rfl, rfl⟩ | ⟨rfl, rfl⟩ | ⟨rfl, rfl⟩ | ⟨rfl, rfl⟩ | ⟨rfl, rfl⟩ | ⟨rfl, rfl⟩ | ⟨rfl, rfl⟩ | ⟨rfl, rfl⟩
  · exact hP.sub [2, 3, 4, 5, 6, 7, 8, 9] rfl
  · exact hP.sub [2, 3, 4, 5, 10, 11, 12, 13] rfl
  · exact hP.sub [2, 3, 4, 5, 14, 15, 16, 17] rfl
  · exact hP.sub [6, 7, 8, 9, 2, 3, 4, 5] rfl
  · exact hP.sub [6, 7, 8, 9, 10, 11, 12, 13] rfl
  · exact hP.sub [6, 7, 8, 9, 14, 15, 16, 17] rfl
  · exact hP.sub [10, 11, 12, 13, 2, 3, 4, 5] rfl
  · exact hP.sub [10, 11, 12, 13, 6, 7, 8, 9] rfl
  · exact hP.sub [10, 11, 12, 13, 14, 15, 16, 17] rfl
  · exact hP.sub [14, 15, 16, 17, 2, 3, 4, 5] rfl
  · exact hP.sub [14, 15, 16, 17, 6, 7, 8, 9] rfl
  · exact hP.sub [14, 15, 16, 17, 10, 11, 12, 13] rfl
set_option maxRecDepth 100000 in
set_option maxHeartbeats 4000000 in
theorem fc10_D {k : Nat → ClassId} {a b : Nat → Nat} {S0 : Nat → St} {S1 : St} {A : Nat → Prop} {j1 : Nat} (hj1 : j1 < 4) {j2 : Nat} (hj2 : j2 < 4) (hne : j1 ≠ j2) (hD : va_D A (wHo k a S0 ++ wFl k b S1)) : va_D A (wEn k (sh a (2 + 4 * j1)) (S0 j1) ++ wEn k (sh a (2 + 4 * j2)) (S0 j2)) := by
  rcases (show (j1 = 0 ∧ j2 = 1) ∨ (j1 = 0 ∧ j2 = 2) ∨ (j1 = 0 ∧ j2 = 3) ∨ (j1 = 1 ∧ j2 = 0) ∨ (j1 = 1 ∧ j2 = 2) ∨ (j1 = 1 ∧ j2 = 3) ∨ (j1 = 2 ∧ j2 = 0) ∨ (j1 = 2 ∧ j2 = 1) ∨ (j1 = 2 ∧ j2 = 3) ∨ (j1 = 3 ∧ j2 = 0) ∨ (j1 = 3 ∧ j2 = 1) ∨ (j1 = 3 ∧ j2 = 2) by omega) with ⟨rfl, rfl⟩ | ⟨rfl, rfl⟩ | ⟨rfl, rfl⟩ | ⟨rfl, rfl⟩ | ⟨rfl, rfl⟩ | ⟨rfl, rfl⟩ | ⟨rfl, rfl⟩ | ⟨rfl, rfl⟩ | ⟨rfl, rfl⟩ | ⟨rfl, rfl⟩ | ⟨rfl, rfl⟩ | ⟨rfl, rfl⟩
  · exact hD.sub [2, 3, 4, 5, 6, 7, 8, 9] (by decide) rfl
  · exact hD.sub [2, 3, 4, 5, 10, 11, 12, 13] (by decide) rfl
  · exact hD.sub [2, 3, 4, 5, 14, 15, 16, 17] (by decide) rfl
  · exact hD.sub [6, 7, 8, 9, 2, 3, 4, 5] (by decide) rfl
  · exact hD.sub [6, 7, 8, 9, 10, 11, 12, 13] (by decide) rfl
  · exact hD.sub [6, 7, 8, 9, 14, 15, 16, 17] (by decide) rfl
  · exact hD.sub [10, 11, 12, 13, 2, 3, 4, 5] (by decide) rfl
  · exact hD.sub [10, 11, 12, 13, 6, 7, 8, 9] (by decide) rfl
  · exact hD.sub [10, 11, 12, 13, 14, 15, 16, 17] (by decide) rfl
  · exact hD.sub [14, 15, 16, 17, 2, 3, 4, 5] (by decide) rfl
  · exact hD.sub [14, 15, 16, 17, 6, 7, 8, 9] (by decide) rfl
  · exact hD.sub [14, 15, 16, 17, 10, 11, 12, 13] (by decide) rfl
set_option maxRecDepth 100000 in
set_option maxHeartbeats 4000000 in
theorem fc10_J {D : va_G} {k : Nat → ClassId} {a b : Nat → Nat} {S0 : Nat → St} {S1 : St} {H : Heap} {H1 : Heap} {A0 : Nat → Prop} {T0 : St} {T1 : St} {j1 : Nat} (hj1 : j1 < 4) {j2 : Nat} (hj2 : j2 < 4) (hne : j1 ≠ j2) (hP : va_P D vwCl (wHo k a S0 ++ wFl k b S1) H) (hD : va_D A0 (wHo k a S0 ++ wFl k b S1)) (hk : ∀ q : Nat, q < H.size → ¬ va_A (wEn k (sh a (2 + 4 * j1)) (S0 j1) ++ wEn k (sh a (2 + 4 * j2)) (S0 j2)) H.size q → H1[q]? = H[q]?) (hF : ∀ q, va_A (wEn k (sh a (2 + 4 * j1)) (S0 j1) ++ wEn k (sh a (2 + 4 * j2)) (S0 j2)) H.size q → A0 q) (hP1 : va_P D vwCl (wEn k (sh a (2 + 4 * j1)) T0 ++ wEn k (sh a (2 + 4 * j2)) T1) H1) (hD1 : va_D (va_A (wEn k (sh a (2 + 4 * j1)) (S0 j1) ++ wEn k (sh a (2 + 4 * j2)) (S0 j2)) H.size) (wEn k (sh a (2 + 4 * j1)) T0 ++ wEn k (sh a (2 + 4 * j2)) T1)) : va_P D vwCl (wHo k a (va_up (va_up S0 j1 T0) j2 T1) ++ wFl k b S1) H1 ∧ va_D A0 (wHo k a (va_up (va_up S0 j1 T0) j2 T1) ++ wFl k b S1) := by
  rcases (show (j1 = 0 ∧ j2 = 1) ∨ (j1 = 0 ∧ j2 = 2) ∨ (j1 = 0 ∧ j2 = 3) ∨ (j1 = 1 ∧ j2 = 0) ∨ (j1 = 1 ∧ j2 = 2) ∨ (j1 = 1 ∧ j2 = 3) ∨ (j1 = 2 ∧ j2 = 0) ∨ (j1 = 2 ∧ j2 = 1) ∨ (j1 = 2 ∧ j2 = 3) ∨ (j1 = 3 ∧ j2 = 0) ∨ (j1 = 3 ∧ j2 = 1) ∨ (j1 = 3 ∧ j2 = 2) by omega) with ⟨rfl, rfl⟩ | ⟨rfl, rfl⟩ | ⟨rfl, rfl⟩ | ⟨rfl, rfl⟩ | ⟨rfl, rfl⟩ | ⟨rfl, rfl⟩ | ⟨rfl, rfl⟩ | ⟨rfl, rfl⟩ | ⟨rfl, rfl⟩ | ⟨rfl, rfl⟩ | ⟨rfl, rfl⟩ | ⟨rfl, rfl⟩
  · exact cut_join hP hD [2, 3, 4, 5, 6, 7, 8, 9] [0, 1, 10, 11, 12, 13, 14, 15, 16, 17, 18, 19, 20, 21, 22] [0, 1, 15, 16, 17, 18, 19, 20, 21, 22, 2, 3, 4, 5, 6, 7, 8, 9, 10, 11, 12, 13, 14] (by decide) (by decide) (by decide) rfl rfl hk hF hP1 hD1 rfl
  · exact cut_join hP hD [2, 3, 4, 5, 10, 11, 12, 13] [0, 1, 6, 7, 8, 9, 14, 15, 16, 17, 18, 19, 20, 21, 22] [0, 1, 15, 16, 17, 18, 2, 3, 4, 5, 19, 20, 21, 22, 6, 7, 8, 9, 10, 11, 12, 13, 14] (by decide) (by decide) (by decide) rfl rfl hk hF hP1 hD1 rfl
  · exact cut_join hP hD [2, 3, 4, 5, 14, 15, 16, 17] [0, 1, 6, 7, 8, 9, 10, 11, 12, 13, 18, 19, 20, 21, 22] [0, 1, 15, 16, 17, 18, 2, 3, 4, 5, 6, 7, 8, 9, 19, 20, 21, 22, 10, 11, 12, 13, 14] (by decide) (by decide) (by decide) rfl rfl hk hF hP1 hD1 rfl
  · exact cut_join hP hD [6, 7, 8, 9, 2, 3, 4, 5] [0, 1, 10, 11, 12, 13, 14, 15, 16, 17, 18, 19, 20, 21, 22] [0, 1, 19, 20, 21, 22, 15, 16, 17, 18, 2, 3, 4, 5, 6, 7, 8, 9, 10, 11, 12, 13, 14] (by decide) (by decide) (by decide) rfl rfl hk hF hP1 hD1 rfl
  · exact cut_join hP hD [6, 7, 8, 9, 10, 11, 12, 13] [0, 1, 2, 3, 4, 5, 14, 15, 16, 17, 18, 19, 20, 21, 22] [0, 1, 2, 3, 4, 5, 15, 16, 17, 18, 19, 20, 21, 22, 6, 7, 8, 9, 10, 11, 12, 13, 14] (by decide) (by decide) (by decide) rfl rfl hk hF hP1 hD1 rfl
  · exact cut_join hP hD [6, 7, 8, 9, 14, 15, 16, 17] [0, 1, 2, 3, 4, 5, 10, 11, 12, 13, 18, 19, 20, 21, 22] [0, 1, 2, 3, 4, 5, 15, 16, 17, 18, 6, 7, 8, 9, 19, 20, 21, 22, 10, 11, 12, 13, 14] (by decide) (by decide) (by decide) rfl rfl hk hF hP1 hD1 rfl
  · exact cut_join hP hD [10, 11, 12, 13, 2, 3, 4, 5] [0, 1, 6, 7, 8, 9, 14, 15, 16, 17, 18, 19, 20, 21, 22] [0, 1, 19, 20, 21, 22, 2, 3, 4, 5, 15, 16, 17, 18, 6, 7, 8, 9, 10, 11, 12, 13, 14] (by decide) (by decide) (by decide) rfl rfl hk hF hP1 hD1 rfl
  · exact cut_join hP hD [10, 11, 12, 13, 6, 7, 8, 9] [0, 1, 2, 3, 4, 5, 14, 15, 16, 17, 18, 19, 20, 21, 22] [0, 1, 2, 3, 4, 5, 19, 20, 21, 22, 15, 16, 17, 18, 6, 7, 8, 9, 10, 11, 12, 13, 14] (by decide) (by decide) (by decide) rfl rfl hk hF hP1 hD1 rfl
  · exact cut_join hP hD [10, 11, 12, 13, 14, 15, 16, 17] [0, 1, 2, 3, 4, 5, 6, 7, 8, 9, 18, 19, 20, 21, 22] [0, 1, 2, 3, 4, 5, 6, 7, 8, 9, 15, 16, 17, 18, 19, 20, 21, 22, 10, 11, 12, 13, 14] (by decide) (by decide) (by decide) rfl rfl hk hF hP1 hD1 rfl
  · exact cut_join hP hD [14, 15, 16, 17, 2, 3, 4, 5] [0, 1, 6, 7, 8, 9, 10, 11, 12, 13, 18, 19, 20, 21, 22] [0, 1, 19, 20, 21, 22, 2, 3, 4, 5, 6, 7, 8, 9, 15, 16, 17, 18, 10, 11, 12, 13, 14] (by decide) (by decide) (by decide) rfl rfl hk hF hP1 hD1 rfl
  · exact cut_join hP hD [14, 15, 16, 17, 6, 7, 8, 9] [0, 1, 2, 3, 4, 5, 10, 11, 12, 13, 18, 19, 20, 21, 22] [0, 1, 2, 3, 4, 5, 19, 20, 21, 22, 6, 7, 8, 9, 15, 16, 17, 18, 10, 11, 12, 13, 14] (by decide) (by decide) (by decide) rfl rfl hk hF hP1 hD1 rfl
  · exact cut_join hP hD [14, 15, 16, 17, 10, 11, 12, 13] [0, 1, 2, 3, 4, 5, 6, 7, 8, 9, 18, 19, 20, 21, 22] [0, 1, 2, 3, 4, 5, 6, 7, 8, 9, 19, 20, 21, 22, 15, 16, 17, 18, 10, 11, 12, 13, 14] (by decide) (by decide) (by decide) rfl rfl hk hF hP1 hD1 rfl

set_option maxRecDepth 100000 in
set_option maxHeartbeats 4000000 in
theorem fc11_P {D : va_G} {k : Nat → ClassId} {a b : Nat → Nat} {S0 : St × St} {S1 : St} {H : Heap} (hP : va_P D vwCl (wLe k a S0 ++ wFl k b S1) H) : va_P D vwCl (wLe k a S0) H := by
  exact hP.sub [0, 1, 2, 3, 4, 5, 6] rfl
set_option maxRecDepth 100000 in
set_option maxHeartbeats 4000000 in
theorem fc11_D {k : Nat → ClassId} {a b : Nat → Nat} {S0 : St × St} {S1 : St} {A : Nat → Prop} (hD : va_D A (wLe k a S0 ++ wFl k b S1)) : va_D A (wLe k a S0) := by
  exact hD.sub [0, 1, 2, 3, 4, 5, 6] (by decide) rfl
set_option maxRecDepth 100000 in
set_option maxHeartbeats 4000000 in
theorem fc11_J {D : va_G} {k : Nat → ClassId} {a b : Nat → Nat} {S0 : St × St} {S1 : St} {H : Heap} {H1 : Heap} {A0 : Nat → Prop} {T0 : St × St} (hP : va_P D vwCl (wLe k a S0 ++ wFl k b S1) H) (hD : va_D A0 (wLe k a S0 ++ wFl k b S1)) (hk : ∀ q : Nat, q < H.size → ¬ va_A (wLe k a S0) H.size q → H1[q]? = H[q]?) (hF : ∀ q, va_A (wLe k a S0) H.size q → A0 q) (hP1 : va_P D vwCl (wLe k a T0) H1) (hD1 : va_D (va_A (wLe k a S0) H.size) (wLe k a T0)) : va_P D vwCl (wLe k a T0 ++ wFl k b S1) H1 ∧ va_D A0 (wLe k a T0 ++ wFl k b S1) := by
  exact cut_join hP hD [0, 1, 2, 3, 4, 5, 6] [7, 8, 9, 10, 11] [5, 6, 7, 8, 9, 10, 11, 0, 1, 2, 3, 4] (by decide) (by decide) (by decide) rfl rfl hk hF hP1 hD1 rfl

set_option maxRecDepth 100000 in
set_option maxHeartbeats 4000000 in
theorem fc12_P {D : va_G} {k : Nat → ClassId} {a b : Nat → Nat} {S0 : St × St} {S1 : St} {H : Heap} (hP : va_P D vwCl (wLe k a S0 ++ wFl k b S1) H) : va_P D vwCl (wFl k (sh a 2) S0.2 ++ wFl k b S1) H := by
  exact hP.sub [2, 3, 4, 5, 6, 7, 8, 9, 10, 11] rfl
set_option maxRecDepth 100000 in
set_option maxHeartbeats 4000000 in
theorem fc12_D {k : Nat → ClassId} {a b : Nat → Nat} {S0 : St × St} {S1 : St} {A : Nat → Prop} (hD : va_D A (wLe k a S0 ++ wFl k b S1)) : va_D A (wFl k (sh a 2) S0.2 ++ wFl k b S1) := by
  exact hD.sub [2, 3, 4, 5, 6, 7, 8, 9, 10, 11] (by decide) rfl
set_option maxRecDepth 100000 in
set_option maxHeartbeats 4000000 in
theorem fc12_J {D : va_G} {k : Nat → ClassId} {a b : Nat → Nat} {S0 : St × St} {S1 : St} {H : Heap} {H1 : Heap} {A0 : Nat → Prop} {T0 : St} {T1 : St} (hP : va_P D vwCl (wLe k a S0 ++ wFl k b S1) H) (hD : va_D A0 (wLe k a S0 ++ wFl k b S1)) (hk : ∀ q : Nat, q < H.size → ¬ va_A (wFl k (sh a 2) S0.2 ++ wFl k b S1) H.size q → H1[q]? = H[q]?) (hF : ∀ q, va_A (wFl k (sh a 2) S0.2 ++ wFl k b S1) H.size q → A0 q) (hP1 : va_P D vwCl (wFl k (sh a 2) T0 ++ wFl k b T1) H1) (hD1 : va_D (va_A (wFl k (sh a 2) S0.2 ++ wFl k b S1) H.size) (wFl k (sh a 2) T0 ++ wFl k b T1)) : va_P D vwCl (wLe k a (S0.1, T0) ++ wFl k b T1) H1 ∧ va_D A0 (wLe k a (S0.1, T0) ++ wFl k b T1) := by
  exact cut_join hP hD [2, 3, 4, 5, 6, 7, 8, 9, 10, 11] [0, 1] [0, 1, 2, 3, 4, 5, 6, 7, 8, 9, 10, 11] (by decide) (by decide) (by decide) rfl rfl hk hF hP1 hD1 rfl

set_option maxRecDepth 100000 in
set_option maxHeartbeats 4000000 in
theorem fc13_P {D : va_G} {k : Nat → ClassId} {a b : Nat → Nat} {S0 : St × St} {S1 : St} {H : Heap} (hP : va_P D vwCl (wLe k a S0 ++ wFl k b S1) H) : va_P D vwCl (wFl k b S1 ++ wFl k (sh a 2) S0.2) H := by
  exact hP.sub [7, 8, 9, 10, 11, 2, 3, 4, 5, 6] rfl
set_option maxRecDepth 100000 in
set_option maxHeartbeats 4000000 in
theorem fc13_D {k : Nat → ClassId} {a b : Nat → Nat} {S0 : St × St} {S1 : St} {A : Nat → Prop} (hD : va_D A (wLe k a S0 ++ wFl k b S1)) : va_D A (wFl k b S1 ++ wFl k (sh a 2) S0.2) := by
  exact hD.sub [7, 8, 9, 10, 11, 2, 3, 4, 5, 6] (by decide) rfl
set_option maxRecDepth 100000 in
set_option maxHeartbeats 4000000 in
theorem fc13_J {D : va_G} {k : Nat → ClassId} {a b : Nat → Nat} {S0 : St × St} {S1 : St} {H : Heap} {H1 : Heap} {A0 : Nat → Prop} {T0 : St} {T1 : St} (hP : va_P D vwCl (wLe k a S0 ++ wFl k b S1) H) (hD : va_D A0 (wLe k a S0 ++ wFl k b S1)) (hk : ∀ q : Nat, q < H.size → ¬ va_A (wFl k b S1 ++ wFl k (sh a 2) S0.2) H.size q → H1[q]? = H[q]?) (hF : ∀ q, va_A (wFl k b S1 ++ wFl k (sh a 2) S0.2) H.size q → A0 q) (hP1 : va_P D vwCl (wFl k b T0 ++ wFl k (sh a 2) T1) H1) (hD1 : va_D (va_A (wFl k b S1 ++ wFl k (sh a 2) S0.2) H.size) (wFl k b T0 ++ wFl k (sh a 2) T1)) : va_P D vwCl (wLe k a (S0.1, T1) ++ wFl k b T0) H1 ∧ va_D A0 (wLe k a (S0.1, T1) ++ wFl k b T0) := by
  exact cut_join hP hD [7, 8, 9, 10, 11, 2, 3, 4, 5, 6] [0, 1] [0, 1, 7, 8, 9, 10, 11, 2, 3, 4, 5, 6] (by decide) (by decide) (by decide) rfl rfl hk hF hP1 hD1 rfl

set_option maxRecDepth 100000 in
set_option maxHeartbeats 4000000 in
theorem fc14_P {D : va_G} {k : Nat → ClassId} {a : Nat → Nat} {S0 : St × St} {H : Heap} (hP : va_P D vwCl (wLe k a S0) H) : va_P D vwCl (wFl k (sh a 2) S0.2) H := by
  exact hP.sub [2, 3, 4, 5, 6] rfl
set_option maxRecDepth 100000 in
set_option maxHeartbeats 4000000 in
theorem fc14_D {k : Nat → ClassId} {a : Nat → Nat} {S0 : St × St} {A : Nat → Prop} (hD : va_D A (wLe k a S0)) : va_D A (wFl k (sh a 2) S0.2) := by
  exact hD.sub [2, 3, 4, 5, 6] (by decide) rfl
set_option maxRecDepth 100000 in
set_option maxHeartbeats 4000000 in
theorem fc14_J {D : va_G} {k : Nat → ClassId} {a : Nat → Nat} {S0 : St × St} {H : Heap} {H1 : Heap} {A0 : Nat → Prop} {T0 : St} (hP : va_P D vwCl (wLe k a S0) H) (hD : va_D A0 (wLe k a S0)) (hk : ∀ q : Nat, q < H.size → ¬ va_A (wFl k (sh a 2) S0.2) H.size q → H1[q]? = H[q]?) (hF : ∀ q, va_A (wFl k (sh a 2) S0.2) H.size q → A0 q) (hP1 : va_P D vwCl (wFl k (sh a 2) T0) H1) (hD1 : va_D (va_A (wFl k (sh a 2) S0.2) H.size) (wFl k (sh a 2) T0)) : va_P D vwCl (wLe k a (S0.1, T0)) H1 ∧ va_D A0 (wLe k a (S0.1, T0)) := by
  exact cut_join hP hD [2, 3, 4, 5, 6] [0, 1] [0, 1, 2, 3, 4, 5, 6] (by decide) (by decide) (by decide) rfl rfl hk hF hP1 hD1 rfl

set_option maxRecDepth 100000 in
set_option maxHeartbeats 4000000 in
theorem fc15_P {D : va_G} {k : Nat → ClassId} {a b : Nat → Nat} {S0 : St × (Nat → St)} {S1 : St} {H : Heap} (hP : va_P D vwCl (wWi k a S0 ++ wFl k b S1) H) : va_P D vwCl (wFl k b S1) H := by
  exact hP.sub [17, 18, 19, 20, 21] rfl
set_option maxRecDepth 100000 in
set_option maxHeartbeats 4000000 in
theorem fc15_D {k : Nat → ClassId} {a b : Nat → Nat} {S0 : St × (Nat → St)} {S1 : St} {A : Nat → Prop} (hD : va_D A (wWi k a S0 ++ wFl k b S1)) : va_D A (wFl k b S1) := by
  exact hD.sub [17, 18, 19, 20, 21] (by decide) rfl
set_option maxRecDepth 100000 in
set_option maxHeartbeats 4000000 in
theorem fc15_J {D : va_G} {k : Nat → ClassId} {a b : Nat → Nat} {S0 : St × (Nat → St)} {S1 : St} {H : Heap} {H1 : Heap} {A0 : Nat → Prop} {T0 : St} (hP : va_P D vwCl (wWi k a S0 ++ wFl k b S1) H) (hD : va_D A0 (wWi k a S0 ++ wFl k b S1)) (hk : ∀ q : Nat, q < H.size → ¬ va_A (wFl k b S1) H.size q → H1[q]? = H[q]?) (hF : ∀ q, va_A (wFl k b S1) H.size q → A0 q) (hP1 : va_P D vwCl (wFl k b T0) H1) (hD1 : va_D (va_A (wFl k b S1) H.size) (wFl k b T0)) : va_P D vwCl (wWi k a S0 ++ wFl k b T0) H1 ∧ va_D A0 (wWi k a S0 ++ wFl k b T0) := by
  exact cut_join hP hD [17, 18, 19, 20, 21] [0, 1, 2, 3, 4, 5, 6, 7, 8, 9, 10, 11, 12, 13, 14, 15, 16] [0, 1, 2, 3, 4, 5, 6, 7, 8, 9, 10, 11, 12, 13, 14, 15, 16, 17, 18, 19, 20, 21] (by decide) (by decide) (by decide) rfl rfl hk hF hP1 hD1 rfl

set_option maxRecDepth 100000 in
set_option maxHeartbeats 4000000 in
theorem fc16_P {D : va_G} {k : Nat → ClassId} {a b : Nat → Nat} {S0 : St × (Nat → St)} {S1 : St} {H : Heap} (hP : va_P D vwCl (wWi k a S0 ++ wFl k b S1) H) : va_P D vwCl (wFl k (sh a 2) (S0.2 0) ++ wFl k b S1) H := by
  exact hP.sub [2, 3, 4, 5, 6, 17, 18, 19, 20, 21] rfl
set_option maxRecDepth 100000 in
set_option maxHeartbeats 4000000 in
theorem fc16_D {k : Nat → ClassId} {a b : Nat → Nat} {S0 : St × (Nat → St)} {S1 : St} {A : Nat → Prop} (hD : va_D A (wWi k a S0 ++ wFl k b S1)) : va_D A (wFl k (sh a 2) (S0.2 0) ++ wFl k b S1) := by
  exact hD.sub [2, 3, 4, 5, 6, 17, 18, 19, 20, 21] (by decide) rfl
set_option maxRecDepth 100000 in
set_option maxHeartbeats 4000000 in
theorem fc16_J {D : va_G} {k : Nat → ClassId} {a b : Nat → Nat} {S0 : St × (Nat → St)} {S1 : St} {H : Heap} {H1 : Heap} {A0 : Nat → Prop} {T0 : St} {T1 : St} (hP : va_P D vwCl (wWi k a S0 ++ wFl k b S1) H) (hD : va_D A0 (wWi k a S0 ++ wFl k b S1)) (hk : ∀ q : Nat, q < H.size → ¬ va_A (wFl k (sh a 2) (S0.2 0) ++ wFl k b S1) H.size q → H1[q]? = H[q]?) (hF : ∀ q, va_A (wFl k (sh a 2) (S0.2 0) ++ wFl k b S1) H.size q → A0 q) (hP1 : va_P D vwCl (wFl k (sh a 2) T0 ++ wFl k b T1) H1) (hD1 : va_D (va_A (wFl k (sh a 2) (S0.2 0) ++ wFl k b S1) H.size) (wFl k (sh a 2) T0 ++ wFl k b T1)) : va_P D vwCl (wWi k a (S0.1, va_up S0.2 0 T0) ++ wFl k b T1) H1 ∧ va_D A0 (wWi k a (S0.1, va_up S0.2 0 T0) ++ wFl k b T1) := by
  exact cut_join hP hD [2, 3, 4, 5, 6, 17, 18, 19, 20, 21] [0, 1, 7, 8, 9, 10, 11, 12, 13, 14, 15, 16] [0, 1, 12, 13, 14, 15, 16, 2, 3, 4, 5, 6, 7, 8, 9, 10, 11, 17, 18, 19, 20, 21] (by decide) (by decide) (by decide) rfl rfl hk hF hP1 hD1 rfl

set_option maxRecDepth 100000 in
set_option maxHeartbeats 4000000 in
theorem fc17_P {D : va_G} {k : Nat → ClassId} {a : Nat → Nat} {S0 : St × (Nat → St)} {H : Heap} {j1 : Nat} (hj1 : j1 < 3) (hP : va_P D vwCl (wWi k a S0) H) : va_P D vwCl (wFl k (sh a (2 + 5 * j1)) (S0.2 j1)) H := by
  rcases (show j1 = 0 ∨ j1 = 1 ∨ j1 = 2 by omega) with rfl | rfl | rfl
  · exact hP.sub [2, 3, 4, 5, 6] rfl
  · exact hP.sub [7, 8, 9, 10, 11] rfl
  · exact hP.sub [12, 13, 14, 15, 16] rfl
set_option maxRecDepth 100000 in
set_option maxHeartbeats 4000000 in
theorem fc17_D {k : Nat → ClassId} {a : Nat → Nat} {S0 : St × (Nat → St)} {A : Nat → Prop} {j1 : Nat} (hj1 : j1 < 3) (hD : va_D A (wWi k a S0)) : va_D A (wFl k (sh a (2 + 5 * j1)) (S0.2 j1)) := by
  rcases (show j1 = 0 ∨ j1 = 1 ∨ j1 = 2 by omega) with rfl | rfl | rfl
  · exact hD.sub [2, 3, 4, 5, 6] (by decide) rfl
  · exact hD.sub [7, 8, 9, 10, 11] (by decide) rfl
  · exact hD.sub [12, 13, 14, 15, 16] (by decide) rfl
set_option maxRecDepth 100000 in
set_option maxHeartbeats 4000000 in
theorem fc17_J {D : va_G} {k : Nat → ClassId} {a : Nat → Nat} {S0 : St × (Nat → St)} {H : Heap} {H1 : Heap} {A0 : Nat → Prop} {T0 : St} {j1 : Nat} (hj1 : j1 < 3) (hP : va_P D vwCl (wWi k a S0) H) (hD : va_D A0 (wWi k a S0)) (hk : ∀ q : Nat, q < H.size → ¬ va_A (wFl k (sh a (2 + 5 * j1)) (S0.2 j1)) H.size q → H1[q]? = H[q]?) (hF : ∀ q, va_A (wFl k (sh a (2 + 5 * j1)) (S0.2 j1)) H.size q → A0 q) (hP1 : va_P D vwCl (wFl k (sh a (2 + 5 * j1)) T0) H1) (hD1 : va_D (va_A (wFl k (sh a (2 + 5 * j1)) (S0.2 j1)) H.size) (wFl k (sh a (2 + 5 * j1)) T0)) : va_P D vwCl (wWi k a (S0.1, va_up S0.2 j1 T0)) H1 ∧ va_D A0 (wWi k a (S0.1, va_up S0.2 j1 T0)) := by
  rcases (show j1 = 0 ∨ j1 = 1 ∨ j1 = 2 by omega) with rfl | rfl | rfl
  · exact cut_join hP hD [2, 3, 4, 5, 6] [0, 1, 7, 8, 9, 10, 11, 12, 13, 14, 15, 16] [0, 1, 12, 13, 14, 15, 16, 2, 3, 4, 5, 6, 7, 8, 9, 10, 11] (by decide) (by decide) (by decide) rfl rfl hk hF hP1 hD1 rfl
  · exact cut_join hP hD [7, 8, 9, 10, 11] [0, 1, 2, 3, 4, 5, 6, 12, 13, 14, 15, 16] [0, 1, 2, 3, 4, 5, 6, 12, 13, 14, 15, 16, 7, 8, 9, 10, 11] (by decide) (by decide) (by decide) rfl rfl hk hF hP1 hD1 rfl
  · exact cut_join hP hD [12, 13, 14, 15, 16] [0, 1, 2, 3, 4, 5, 6, 7, 8, 9, 10, 11] [0, 1, 2, 3, 4, 5, 6, 7, 8, 9, 10, 11, 12, 13, 14, 15, 16] (by decide) (by decide) (by decide) rfl rfl hk hF hP1 hD1 rfl

set_option maxRecDepth 100000 in
set_option maxHeartbeats 4000000 in
theorem fc18_P {D : va_G} {k : Nat → ClassId} {a : Nat → Nat} {S0 : St × (Nat → St)} {H : Heap} {j1 : Nat} (hj1 : j1 < 3) {j2 : Nat} (hj2 : j2 < 3) (hne : j1 ≠ j2) (hP : va_P D vwCl (wWi k a S0) H) : va_P D vwCl (wFl k (sh a (2 + 5 * j1)) (S0.2 j1) ++ wFl k (sh a (2 + 5 * j2)) (S0.2 j2)) H := by
  rcases (show (j1 = 0 ∧ j2 = 1) ∨ (j1 = 0 ∧ j2 = 2) ∨ (j1 = 1 ∧ j2 = 0) ∨ (j1 = 1 ∧ j2 = 2) ∨ (j1 = 2 ∧ j2 = 0) ∨ (j1 = 2 ∧ j2 = 1) by omega) with ⟨rfl, rfl⟩ | ⟨rfl, rfl⟩ | ⟨rfl, rfl⟩ | ⟨rfl, rfl⟩ | ⟨rfl, rfl⟩ | ⟨rfl, rfl⟩
  · exact hP.sub [2, 3, 4, 5, 6, 7, 8, 9, 10, 11] rfl
  · exact hP.sub [2, 3, 4, 5, 6, 12, 13, 14, 15, 16] rfl
  · exact hP.sub [7, 8, 9, 10, 11, 2, 3, 4, 5, 6] rfl
  · exact hP.sub [7, 8, 9, 10, 11, 12, 13, 14, 15, 16] rfl
  · exact hP.sub [12, 13, 14, 15, 16, 2, 3, 4, 5, 6] rfl
  · exact hP.sub [12, 13, 14, 15, 16, 7, 8, 9, 10, 11] rfl
set_option maxRecDepth 100000 in
set_option maxHeartbeats 4000000 in
theorem fc18_D {k : Nat → ClassId} {a : Nat → Nat} {S0 : St × (Nat → St)} {A : Nat → Prop} {j1 : Nat} (hj1 : j1 < 3) {j2 : Nat} (hj2 : j2 < 3) (hne : j1 ≠ j2) (hD : va_D A (wWi k a S0)) : va_D A (wFl k (sh a (2 + 5 * j1)) (S0.2 j1) ++ wFl k (sh a (2 + 5 * j2)) (S0.2 j2)) := by
  rcases (show (j1 = 0 ∧ j2 = 1) ∨ (j1 = 0 ∧ j2 = 2) ∨ (j1 = 1 ∧ j2 = 0) ∨ (j1 = 1 ∧ j2 = 2) ∨ (j1 = 2 ∧ j2 = 0) ∨ (j1 = 2 ∧ j2 = 1) by omega) with ⟨rfl, rfl⟩ | ⟨rfl, rfl⟩ | ⟨rfl, rfl⟩ | ⟨rfl, rfl⟩ | ⟨rfl, rfl⟩ | ⟨rfl, rfl⟩
  · exact hD.sub [2, 3, 4, 5, 6, 7, 8, 9, 10, 11] (by decide) rfl
  · exact hD.sub [2, 3, 4, 5, 6, 12, 13, 14, 15, 16] (by decide) rfl
  · exact hD.sub [7, 8, 9, 10, 11, 2, 3, 4, 5, 6] (by decide) rfl
  · exact hD.sub [7, 8, 9, 10, 11, 12, 13, 14, 15, 16] (by decide) rfl
  · exact hD.sub [12, 13, 14, 15, 16, 2, 3, 4, 5, 6] (by decide) rfl
  · exact hD.sub [12, 13, 14, 15, 16, 7, 8, 9, 10, 11] (by decide) rfl
set_option maxRecDepth 100000 in
set_option maxHeartbeats 4000000 in
theorem fc18_J {D : va_G} {k : Nat → ClassId} {a : Nat → Nat} {S0 : St × (Nat → St)} {H : Heap} {H1 : Heap} {A0 : Nat → Prop} {T0 : St} {T1 : St} {j1 : Nat} (hj1 : j1 < 3) {j2 : Nat} (hj2 : j2 < 3) (hne : j1 ≠ j2) (hP : va_P D vwCl (wWi k a S0) H) (hD : va_D A0 (wWi k a S0)) (hk : ∀ q : Nat, q < H.size → ¬ va_A (wFl k (sh a (2 + 5 * j1)) (S0.2 j1) ++ wFl k (sh a (2 + 5 * j2)) (S0.2 j2)) H.size q → H1[q]? = H[q]?) (hF : ∀ q, va_A (wFl k (sh a (2 + 5 * j1)) (S0.2 j1) ++ wFl k (sh a (2 + 5 * j2)) (S0.2 j2)) H.size q → A0 q) (hP1 : va_P D vwCl (wFl k (sh a (2 + 5 * j1)) T0 ++ wFl k (sh a (2 + 5 * j2)) T1) H1) (hD1 : va_D (va_A (wFl k (sh a (2 + 5 * j1)) (S0.2 j1) ++ wFl k (sh a (2 + 5 * j2)) (S0.2 j2)) H.size) (wFl k (sh a (2 + 5 * j1)) T0 ++ wFl k (sh a (2 + 5 * j2)) T1)) : va_P D vwCl (wWi k a ((S0.1, va_up S0.2 j1 T0).1, va_up (S0.1, va_up S0.2 j1 T0).2 j2 T1)) H1 ∧ va_D A0 (wWi k a ((S0.1, va_up S0.2 j1 T0).1, va_up (S0.1, va_up S0.2 j1 T0).2 j2 T1)) := by
  rcases (show (j1 = 0 ∧ j2 = 1) ∨ (j1 = 0 ∧ j2 = 2) ∨ (j1 = 1 ∧ j2 = 0) ∨ (j1 = 1 ∧ j2 = 2) ∨ (j1 = 2 ∧ j2 = 0) ∨ (j1 = 2 ∧ j2 = 1) by omega) with ⟨rfl, rfl⟩ | ⟨rfl, rfl⟩ | ⟨rfl, rfl⟩ | ⟨rfl, rfl⟩ | ⟨rfl, rfl⟩ | ⟨rfl, rfl⟩
  · exact cut_join hP hD [2, 3, 4, 5, 6, 7, 8, 9, 10, 11] [0, 1, 12, 13, 14, 15, 16] [0, 1, 7, 8, 9, 10, 11, 12, 13, 14, 15, 16, 2, 3, 4, 5, 6] (by decide) (by decide) (by decide) rfl rfl hk hF hP1 hD1 rfl
  · exact cut_join hP hD [2, 3, 4, 5, 6, 12, 13, 14, 15, 16] [0, 1, 7, 8, 9, 10, 11] [0, 1, 7, 8, 9, 10, 11, 2, 3, 4, 5, 6, 12, 13, 14, 15, 16] (by decide) (by decide) (by decide) rfl rfl hk hF hP1 hD1 rfl
  · exact cut_join hP hD [7, 8, 9, 10, 11, 2, 3, 4, 5, 6] [0, 1, 12, 13, 14, 15, 16] [0, 1, 12, 13, 14, 15, 16, 7, 8, 9, 10, 11, 2, 3, 4, 5, 6] (by decide) (by decide) (by decide) rfl rfl hk hF hP1 hD1 rfl
  · exact cut_join hP hD [7, 8, 9, 10, 11, 12, 13, 14, 15, 16] [0, 1, 2, 3, 4, 5, 6] [0, 1, 2, 3, 4, 5, 6, 7, 8, 9, 10, 11, 12, 13, 14, 15, 16] (by decide) (by decide) (by decide) rfl rfl hk hF hP1 hD1 rfl
  · exact cut_join hP hD [12, 13, 14, 15, 16, 2, 3, 4, 5, 6] [0, 1, 7, 8, 9, 10, 11] [0, 1, 12, 13, 14, 15, 16, 2, 3, 4, 5, 6, 7, 8, 9, 10, 11] (by decide) (by decide) (by decide) rfl rfl hk hF hP1 hD1 rfl
  · exact cut_join hP hD [12, 13, 14, 15, 16, 7, 8, 9, 10, 11] [0, 1, 2, 3, 4, 5, 6] [0, 1, 2, 3, 4, 5, 6, 12, 13, 14, 15, 16, 7, 8, 9, 10, 11] (by decide) (by decide) (by decide) rfl rfl hk hF hP1 hD1 rfl

set_option maxRecDepth 100000 in
set_option maxHeartbeats 4000000 in
theorem fc19_P {D : va_G} {k : Nat → ClassId} {a b : Nat → Nat} {S0 : St × (Nat → St)} {S1 : St} {H : Heap} (hP : va_P D vwCl (wWi k a S0 ++ wFl k b S1) H) : va_P D vwCl (wWi k a S0) H := by
  exact hP.sub [0, 1, 2, 3, 4, 5, 6, 7, 8, 9, 10, 11, 12, 13, 14, 15, 16] rfl
set_option maxRecDepth 100000 in
set_option maxHeartbeats 4000000 in
theorem fc19_D {k : Nat → ClassId} {a b : Nat → Nat} {S0 : St × (Nat → St)} {S1 : St} {A : Nat → Prop} (hD : va_D A (wWi k a S0 ++ wFl k b S1)) : va_D A (wWi k a S0) := by
  exact hD.sub [0, 1, 2, 3, 4, 5, 6, 7, 8, 9, 10, 11, 12, 13, 14, 15, 16] (by decide) rfl
set_option maxRecDepth 100000 in
set_option maxHeartbeats 4000000 in
theorem fc19_J {D : va_G} {k : Nat → ClassId} {a b : Nat → Nat} {S0 : St × (Nat → St)} {S1 : St} {H : Heap} {H1 : Heap} {A0 : Nat → Prop} {T0 : St × (Nat → St)} (hP : va_P D vwCl (wWi k a S0 ++ wFl k b S1) H) (hD : va_D A0 (wWi k a S0 ++ wFl k b S1)) (hk : ∀ q : Nat, q < H.size → ¬ va_A (wWi k a S0) H.size q → H1[q]? = H[q]?) (hF : ∀ q, va_A (wWi k a S0) H.size q → A0 q) (hP1 : va_P D vwCl (wWi k a T0) H1) (hD1 : va_D (va_A (wWi k a S0) H.size) (wWi k a T0)) : va_P D vwCl (wWi k a T0 ++ wFl k b S1) H1 ∧ va_D A0 (wWi k a T0 ++ wFl k b S1) := by
  exact cut_join hP hD [0, 1, 2, 3, 4, 5, 6, 7, 8, 9, 10, 11, 12, 13, 14, 15, 16] [17, 18, 19, 20, 21] [5, 6, 7, 8, 9, 10, 11, 12, 13, 14, 15, 16, 17, 18, 19, 20, 21, 0, 1, 2, 3, 4] (by decide) (by decide) (by decide) rfl rfl hk hF hP1 hD1 rfl

set_option maxRecDepth 100000 in
set_option maxHeartbeats 4000000 in
theorem fc20_P {D : va_G} {k : Nat → ClassId} {a : Nat → Nat} {S0 : CS} {H : Heap} (hP : va_P D vwCl (wMa k a S0) H) : va_P D vwCl (wLe k (sh a 12) S0.2.2.2.1) H := by
  exact hP.sub [12, 13, 14, 15, 16, 17, 18] rfl
set_option maxRecDepth 100000 in
set_option maxHeartbeats 4000000 in
theorem fc20_D {k : Nat → ClassId} {a : Nat → Nat} {S0 : CS} {A : Nat → Prop} (hD : va_D A (wMa k a S0)) : va_D A (wLe k (sh a 12) S0.2.2.2.1) := by
  exact hD.sub [12, 13, 14, 15, 16, 17, 18] (by decide) rfl
set_option maxRecDepth 100000 in
set_option maxHeartbeats 4000000 in
theorem fc20_J {D : va_G} {k : Nat → ClassId} {a : Nat → Nat} {S0 : CS} {H : Heap} {H1 : Heap} {A0 : Nat → Prop} {T0 : St × St} (hP : va_P D vwCl (wMa k a S0) H) (hD : va_D A0 (wMa k a S0)) (hk : ∀ q : Nat, q < H.size → ¬ va_A (wLe k (sh a 12) S0.2.2.2.1) H.size q → H1[q]? = H[q]?) (hF : ∀ q, va_A (wLe k (sh a 12) S0.2.2.2.1) H.size q → A0 q) (hP1 : va_P D vwCl (wLe k (sh a 12) T0) H1) (hD1 : va_D (va_A (wLe k (sh a 12) S0.2.2.2.1) H.size) (wLe k (sh a 12) T0)) : va_P D vwCl (wMa k a (xl S0 T0)) H1 ∧ va_D A0 (wMa k a (xl S0 T0)) := by
  exact cut_join hP hD [12, 13, 14, 15, 16, 17, 18] [0, 1, 2, 3, 4, 5, 6, 7, 8, 9, 10, 11, 19, 20, 21, 22, 23, 24, 25, 26, 27, 28, 29, 30, 31, 32, 33, 34, 35, 36, 37, 38, 39, 40, 41, 42, 43, 44, 45, 46, 47, 48, 49, 50, 51, 52, 53, 54, 55, 56, 57, 58, 59, 60, 61, 62, 63, 64, 65, 66, 67, 68, 69, 70, 71, 72, 73, 74, 75, 76, 77, 78, 79, 80, 81, 82, 83, 84, 85, 86, 87, 88, 89, 90, 91] [0, 1, 2, 3, 4, 5, 6, 7, 8, 9, 10, 11, 85, 86, 87, 88, 89, 90, 91, 12, 13, 14, 15, 16, 17, 18, 19, 20, 21, 22, 23, 24, 25, 26, 27, 28, 29, 30, 31, 32, 33, 34, 35, 36, 37, 38, 39, 40, 41, 42, 43, 44, 45, 46, 47, 48, 49, 50, 51, 52, 53, 54, 55, 56, 57, 58, 59, 60, 61, 62, 63, 64, 65, 66, 67, 68, 69, 70, 71, 72, 73, 74, 75, 76, 77, 78, 79, 80, 81, 82, 83, 84] (by decide) (by decide) (by decide) rfl rfl hk hF hP1 hD1 rfl

set_option maxRecDepth 100000 in
set_option maxHeartbeats 4000000 in
theorem fc21_P {D : va_G} {k : Nat → ClassId} {a : Nat → Nat} {S0 : CS} {H : Heap} (hP : va_P D vwCl (wMa k a S0) H) : va_P D vwCl (wLe k (sh a 12) S0.2.2.2.1 ++ wFl k (sh a 2) S0.2.1) H := by
  exact hP.sub [12, 13, 14, 15, 16, 17, 18, 2, 3, 4, 5, 6] rfl
set_option maxRecDepth 100000 in
set_option maxHeartbeats 4000000 in
theorem fc21_D {k : Nat → ClassId} {a : Nat → Nat} {S0 : CS} {A : Nat → Prop} (hD : va_D A (wMa k a S0)) : va_D A (wLe k (sh a 12) S0.2.2.2.1 ++ wFl k (sh a 2) S0.2.1) := by
  exact hD.sub [12, 13, 14, 15, 16, 17, 18, 2, 3, 4, 5, 6] (by decide) rfl
set_option maxRecDepth 100000 in
set_option maxHeartbeats 4000000 in
theorem fc21_J {D : va_G} {k : Nat → ClassId} {a : Nat → Nat} {S0 : CS} {H : Heap} {H1 : Heap} {A0 : Nat → Prop} {T0 : St × St} {T1 : St} (hP : va_P D vwCl (wMa k a S0) H) (hD : va_D A0 (wMa k a S0)) (hk : ∀ q : Nat, q < H.size → ¬ va_A (wLe k (sh a 12) S0.2.2.2.1 ++ wFl k (sh a 2) S0.2.1) H.size q → H1[q]? = H[q]?) (hF : ∀ q, va_A (wLe k (sh a 12) S0.2.2.2.1 ++ wFl k (sh a 2) S0.2.1) H.size q → A0 q) (hP1 : va_P D vwCl (wLe k (sh a 12) T0 ++ wFl k (sh a 2) T1) H1) (hD1 : va_D (va_A (wLe k (sh a 12) S0.2.2.2.1 ++ wFl k (sh a 2) S0.2.1) H.size) (wLe k (sh a 12) T0 ++ wFl k (sh a 2) T1)) : va_P D vwCl (wMa k a (xf (xl S0 T0) T1)) H1 ∧ va_D A0 (wMa k a (xf (xl S0 T0) T1)) := by
  exact cut_join hP hD [12, 13, 14, 15, 16, 17, 18, 2, 3, 4, 5, 6] [0, 1, 7, 8, 9, 10, 11, 19, 20, 21, 22, 23, 24, 25, 26, 27, 28, 29, 30, 31, 32, 33, 34, 35, 36, 37, 38, 39, 40, 41, 42, 43, 44, 45, 46, 47, 48, 49, 50, 51, 52, 53, 54, 55, 56, 57, 58, 59, 60, 61, 62, 63, 64, 65, 66, 67, 68, 69, 70, 71, 72, 73, 74, 75, 76, 77, 78, 79, 80, 81, 82, 83, 84, 85, 86, 87, 88, 89, 90, 91] [0, 1, 87, 88, 89, 90, 91, 2, 3, 4, 5, 6, 80, 81, 82, 83, 84, 85, 86, 7, 8, 9, 10, 11, 12, 13, 14, 15, 16, 17, 18, 19, 20, 21, 22, 23, 24, 25, 26, 27, 28, 29, 30, 31, 32, 33, 34, 35, 36, 37, 38, 39, 40, 41, 42, 43, 44, 45, 46, 47, 48, 49, 50, 51, 52, 53, 54, 55, 56, 57, 58, 59, 60, 61, 62, 63, 64, 65, 66, 67, 68, 69, 70, 71, 72, 73, 74, 75, 76, 77, 78, 79] (by decide) (by decide) (by decide) rfl rfl hk hF hP1 hD1 rfl

set_option maxRecDepth 100000 in
set_option maxHeartbeats 4000000 in
theorem fc22_P {D : va_G} {k : Nat → ClassId} {a : Nat → Nat} {S0 : CS} {H : Heap} (hP : va_P D vwCl (wMa k a S0) H) : va_P D vwCl (wFl k (sh a 2) S0.2.1) H := by
  exact hP.sub [2, 3, 4, 5, 6] rfl
set_option maxRecDepth 100000 in
set_option maxHeartbeats 4000000 in
theorem fc22_D {k : Nat → ClassId} {a : Nat → Nat} {S0 : CS} {A : Nat → Prop} (hD : va_D A (wMa k a S0)) : va_D A (wFl k (sh a 2) S0.2.1) := by
  exact hD.sub [2, 3, 4, 5, 6] (by decide) rfl
set_option maxRecDepth 100000 in
set_option maxHeartbeats 4000000 in
theorem fc22_J {D : va_G} {k : Nat → ClassId} {a : Nat → Nat} {S0 : CS} {H : Heap} {H1 : Heap} {A0 : Nat → Prop} {T0 : St} (hP : va_P D vwCl (wMa k a S0) H) (hD : va_D A0 (wMa k a S0)) (hk : ∀ q : Nat, q < H.size → ¬ va_A (wFl k (sh a 2) S0.2.1) H.size q → H1[q]? = H[q]?) (hF : ∀ q, va_A (wFl k (sh a 2) S0.2.1) H.size q → A0 q) (hP1 : va_P D vwCl (wFl k (sh a 2) T0) H1) (hD1 : va_D (va_A (wFl k (sh a 2) S0.2.1) H.size) (wFl k (sh a 2) T0)) : va_P D vwCl (wMa k a (xf S0 T0)) H1 ∧ va_D A0 (wMa k a (xf S0 T0)) := by
  exact cut_join hP hD [2, 3, 4, 5, 6] [0, 1, 7, 8, 9, 10, 11, 12, 13, 14, 15, 16, 17, 18, 19, 20, 21, 22, 23, 24, 25, 26, 27, 28, 29, 30, 31, 32, 33, 34, 35, 36, 37, 38, 39, 40, 41, 42, 43, 44, 45, 46, 47, 48, 49, 50, 51, 52, 53, 54, 55, 56, 57, 58, 59, 60, 61, 62, 63, 64, 65, 66, 67, 68, 69, 70, 71, 72, 73, 74, 75, 76, 77, 78, 79, 80, 81, 82, 83, 84, 85, 86, 87, 88, 89, 90, 91] [0, 1, 87, 88, 89, 90, 91, 2, 3, 4, 5, 6, 7, 8, 9, 10, 11, 12, 13, 14, 15, 16, 17, 18, 19, 20, 21, 22, 23, 24, 25, 26, 27, 28, 29, 30, 31, 32, 33, 34, 35, 36, 37, 38, 39, 40, 41, 42, 43, 44, 45, 46, 47, 48, 49, 50, 51, 52, 53, 54, 55, 56, 57, 58, 59, 60, 61, 62, 63, 64, 65, 66, 67, 68, 69, 70, 71, 72, 73, 74, 75, 76, 77, 78, 79, 80, 81, 82, 83, 84, 85, 86] (by decide) (by decide) (by decide) rfl rfl hk hF hP1 hD1 rfl

set_option maxRecDepth 100000 in
set_option maxHeartbeats 4000000 in
theorem fc23_P {D : va_G} {k : Nat → ClassId} {a : Nat → Nat} {S0 : CS} {H : Heap} (hP : va_P D vwCl (wMa k a S0) H) : va_P D vwCl (wHo k (sh a 19) S0.2.2.2.2.1 ++ wFl k (sh a 2) S0.2.1) H := by
  exact hP.sub [19, 20, 21, 22, 23, 24, 25, 26, 27, 28, 29, 30, 31, 32, 33, 34, 35, 36, 2, 3, 4, 5, 6] rfl
set_option maxRecDepth 100000 in
set_option maxHeartbeats 4000000 in
theorem fc23_D {k : Nat → ClassId} {a : Nat → Nat} {S0 : CS} {A : Nat → Prop} (hD : va_D A (wMa k a S0)) : va_D A (wHo k (sh a 19) S0.2.2.2.2.1 ++ wFl k (sh a 2) S0.2.1) := by
  exact hD.sub [19, 20, 21, 22, 23, 24, 25, 26, 27, 28, 29, 30, 31, 32, 33, 34, 35, 36, 2, 3, 4, 5, 6] (by decide) rfl
set_option maxRecDepth 100000 in
set_option maxHeartbeats 4000000 in
theorem fc23_J {D : va_G} {k : Nat → ClassId} {a : Nat → Nat} {S0 : CS} {H : Heap} {H1 : Heap} {A0 : Nat → Prop} {T0 : Nat → St} {T1 : St} (hP : va_P D vwCl (wMa k a S0) H) (hD : va_D A0 (wMa k a S0)) (hk : ∀ q : Nat, q < H.size → ¬ va_A (wHo k (sh a 19) S0.2.2.2.2.1 ++ wFl k (sh a 2) S0.2.1) H.size q → H1[q]? = H[q]?) (hF : ∀ q, va_A (wHo k (sh a 19) S0.2.2.2.2.1 ++ wFl k (sh a 2) S0.2.1) H.size q → A0 q) (hP1 : va_P D vwCl (wHo k (sh a 19) T0 ++ wFl k (sh a 2) T1) H1) (hD1 : va_D (va_A (wHo k (sh a 19) S0.2.2.2.2.1 ++ wFl k (sh a 2) S0.2.1) H.size) (wHo k (sh a 19) T0 ++ wFl k (sh a 2) T1)) : va_P D vwCl (wMa k a (xf (xh S0 T0) T1)) H1 ∧ va_D A0 (wMa k a (xf (xh S0 T0) T1)) := by
  exact cut_join hP hD [19, 20, 21, 22, 23, 24, 25, 26, 27, 28, 29, 30, 31, 32, 33, 34, 35, 36, 2, 3, 4, 5, 6] [0, 1, 7, 8, 9, 10, 11, 12, 13, 14, 15, 16, 17, 18, 37, 38, 39, 40, 41, 42, 43, 44, 45, 46, 47, 48, 49, 50, 51, 52, 53, 54, 55, 56, 57, 58, 59, 60, 61, 62, 63, 64, 65, 66, 67, 68, 69, 70, 71, 72, 73, 74, 75, 76, 77, 78, 79, 80, 81, 82, 83, 84, 85, 86, 87, 88, 89, 90, 91] [0, 1, 87, 88, 89, 90, 91, 2, 3, 4, 5, 6, 7, 8, 9, 10, 11, 12, 13, 69, 70, 71, 72, 73, 74, 75, 76, 77, 78, 79, 80, 81, 82, 83, 84, 85, 86, 14, 15, 16, 17, 18, 19, 20, 21, 22, 23, 24, 25, 26, 27, 28, 29, 30, 31, 32, 33, 34, 35, 36, 37, 38, 39, 40, 41, 42, 43, 44, 45, 46, 47, 48, 49, 50, 51, 52, 53, 54, 55, 56, 57, 58, 59, 60, 61, 62, 63, 64, 65, 66, 67, 68] (by decide) (by decide) (by decide) rfl rfl hk hF hP1 hD1 rfl

set_option maxRecDepth 100000 in
set_option maxHeartbeats 4000000 in
theorem fc24_P {D : va_G} {k : Nat → ClassId} {a : Nat → Nat} {S0 : CS} {H : Heap} (hP : va_P D vwCl (wMa k a S0) H) : va_P D vwCl (wWi k (sh a 37) S0.2.2.2.2.2.1 ++ wFl k (sh a 2) S0.2.1) H := by
  exact hP.sub [37, 38, 39, 40, 41, 42, 43, 44, 45, 46, 47, 48, 49, 50, 51, 52, 53, 2, 3, 4, 5, 6] rfl
set_option maxRecDepth 100000 in
set_option maxHeartbeats 4000000 in
theorem fc24_D {k : Nat → ClassId} {a : Nat → Nat} {S0 : CS} {A : Nat → Prop} (hD : va_D A (wMa k a S0)) : va_D A (wWi k (sh a 37) S0.2.2.2.2.2.1 ++ wFl k (sh a 2) S0.2.1) := by
  exact hD.sub [37, 38, 39, 40, 41, 42, 43, 44, 45, 46, 47, 48, 49, 50, 51, 52, 53, 2, 3, 4, 5, 6] (by decide) rfl
set_option maxRecDepth 100000 in
set_option maxHeartbeats 4000000 in
theorem fc24_J {D : va_G} {k : Nat → ClassId} {a : Nat → Nat} {S0 : CS} {H : Heap} {H1 : Heap} {A0 : Nat → Prop} {T0 : St × (Nat → St)} {T1 : St} (hP : va_P D vwCl (wMa k a S0) H) (hD : va_D A0 (wMa k a S0)) (hk : ∀ q : Nat, q < H.size → ¬ va_A (wWi k (sh a 37) S0.2.2.2.2.2.1 ++ wFl k (sh a 2) S0.2.1) H.size q → H1[q]? = H[q]?) (hF : ∀ q, va_A (wWi k (sh a 37) S0.2.2.2.2.2.1 ++ wFl k (sh a 2) S0.2.1) H.size q → A0 q) (hP1 : va_P D vwCl (wWi k (sh a 37) T0 ++ wFl k (sh a 2) T1) H1) (hD1 : va_D (va_A (wWi k (sh a 37) S0.2.2.2.2.2.1 ++ wFl k (sh a 2) S0.2.1) H.size) (wWi k (sh a 37) T0 ++ wFl k (sh a 2) T1)) : va_P D vwCl (wMa k a (xf (xw S0 T0) T1)) H1 ∧ va_D A0 (wMa k a (xf (xw S0 T0) T1)) := by
  exact cut_join hP hD [37, 38, 39, 40, 41, 42, 43, 44, 45, 46, 47, 48, 49, 50, 51, 52, 53, 2, 3, 4, 5, 6] [0, 1, 7, 8, 9, 10, 11, 12, 13, 14, 15, 16, 17, 18, 19, 20, 21, 22, 23, 24, 25, 26, 27, 28, 29, 30, 31, 32, 33, 34, 35, 36, 54, 55, 56, 57, 58, 59, 60, 61, 62, 63, 64, 65, 66, 67, 68, 69, 70, 71, 72, 73, 74, 75, 76, 77, 78, 79, 80, 81, 82, 83, 84, 85, 86, 87, 88, 89, 90, 91] [0, 1, 87, 88, 89, 90, 91, 2, 3, 4, 5, 6, 7, 8, 9, 10, 11, 12, 13, 14, 15, 16, 17, 18, 19, 20, 21, 22, 23, 24, 25, 26, 27, 28, 29, 30, 31, 70, 71, 72, 73, 74, 75, 76, 77, 78, 79, 80, 81, 82, 83, 84, 85, 86, 32, 33, 34, 35, 36, 37, 38, 39, 40, 41, 42, 43, 44, 45, 46, 47, 48, 49, 50, 51, 52, 53, 54, 55, 56, 57, 58, 59, 60, 61, 62, 63, 64, 65, 66, 67, 68, 69] (by decide) (by decide) (by decide) rfl rfl hk hF hP1 hD1 rfl

set_option maxRecDepth 100000 in
set_option maxHeartbeats 4000000 in
theorem fc25_P {D : va_G} {k : Nat → ClassId} {a : Nat → Nat} {S0 : CS} {H : Heap} (hP : va_P D vwCl (wMa k a S0) H) : va_P D vwCl (wEv k (sh a 54) S0.2.2.2.2.2.2) H := by
  exact hP.sub [54, 55, 56, 57, 58, 59, 60, 61, 62, 63, 64, 65, 66, 67, 68, 69, 70, 71, 72, 73, 74, 75, 76, 77, 78, 79, 80, 81, 82, 83, 84, 85, 86, 87, 88, 89, 90, 91] rfl
set_option maxRecDepth 100000 in
set_option maxHeartbeats 4000000 in
theorem fc25_D {k : Nat → ClassId} {a : Nat → Nat} {S0 : CS} {A : Nat → Prop} (hD : va_D A (wMa k a S0)) : va_D A (wEv k (sh a 54) S0.2.2.2.2.2.2) := by
  exact hD.sub [54, 55, 56, 57, 58, 59, 60, 61, 62, 63, 64, 65, 66, 67, 68, 69, 70, 71, 72, 73, 74, 75, 76, 77, 78, 79, 80, 81, 82, 83, 84, 85, 86, 87, 88, 89, 90, 91] (by decide) rfl
set_option maxRecDepth 100000 in
set_option maxHeartbeats 4000000 in
theorem fc25_J {D : va_G} {k : Nat → ClassId} {a : Nat → Nat} {S0 : CS} {H : Heap} {H1 : Heap} {A0 : Nat → Prop} {T0 : St × (Nat → St)} (hP : va_P D vwCl (wMa k a S0) H) (hD : va_D A0 (wMa k a S0)) (hk : ∀ q : Nat, q < H.size → ¬ va_A (wEv k (sh a 54) S0.2.2.2.2.2.2) H.size q → H1[q]? = H[q]?) (hF : ∀ q, va_A (wEv k (sh a 54) S0.2.2.2.2.2.2) H.size q → A0 q) (hP1 : va_P D vwCl (wEv k (sh a 54) T0) H1) (hD1 : va_D (va_A (wEv k (sh a 54) S0.2.2.2.2.2.2) H.size) (wEv k (sh a 54) T0)) : va_P D vwCl (wMa k a (xe S0 T0)) H1 ∧ va_D A0 (wMa k a (xe S0 T0)) := by
  exact cut_join hP hD [54, 55, 56, 57, 58, 59, 60, 61, 62, 63, 64, 65, 66, 67, 68, 69, 70, 71, 72, 73, 74, 75, 76, 77, 78, 79, 80, 81, 82, 83, 84, 85, 86, 87, 88, 89, 90, 91] [0, 1, 2, 3, 4, 5, 6, 7, 8, 9, 10, 11, 12, 13, 14, 15, 16, 17, 18, 19, 20, 21, 22, 23, 24, 25, 26, 27, 28, 29, 30, 31, 32, 33, 34, 35, 36, 37, 38, 39, 40, 41, 42, 43, 44, 45, 46, 47, 48, 49, 50, 51, 52, 53] [0, 1, 2, 3, 4, 5, 6, 7, 8, 9, 10, 11, 12, 13, 14, 15, 16, 17, 18, 19, 20, 21, 22, 23, 24, 25, 26, 27, 28, 29, 30, 31, 32, 33, 34, 35, 36, 37, 38, 39, 40, 41, 42, 43, 44, 45, 46, 47, 48, 49, 50, 51, 52, 53, 54, 55, 56, 57, 58, 59, 60, 61, 62, 63, 64, 65, 66, 67, 68, 69, 70, 71, 72, 73, 74, 75, 76, 77, 78, 79, 80, 81, 82, 83, 84, 85, 86, 87, 88, 89, 90, 91] (by decide) (by decide) (by decide) rfl rfl hk hF hP1 hD1 rfl

set_option maxRecDepth 100000 in
set_option maxHeartbeats 4000000 in
theorem fc26_P {D : va_G} {k : Nat → ClassId} {a : Nat → Nat} {S0 : CS} {H : Heap} (hP : va_P D vwCl (wMa k a S0) H) : va_P D vwCl (wEv k (sh a 54) S0.2.2.2.2.2.2 ++ wFl k (sh a 2) S0.2.1) H := by
  exact hP.sub [54, 55, 56, 57, 58, 59, 60, 61, 62, 63, 64, 65, 66, 67, 68, 69, 70, 71, 72, 73, 74, 75, 76, 77, 78, 79, 80, 81, 82, 83, 84, 85, 86, 87, 88, 89, 90, 91, 2, 3, 4, 5, 6] rfl
set_option maxRecDepth 100000 in
set_option maxHeartbeats 4000000 in
theorem fc26_D {k : Nat → ClassId} {a : Nat → Nat} {S0 : CS} {A : Nat → Prop} (hD : va_D A (wMa k a S0)) : va_D A (wEv k (sh a 54) S0.2.2.2.2.2.2 ++ wFl k (sh a 2) S0.2.1) := by
  exact hD.sub [54, 55, 56, 57, 58, 59, 60, 61, 62, 63, 64, 65, 66, 67, 68, 69, 70, 71, 72, 73, 74, 75, 76, 77, 78, 79, 80, 81, 82, 83, 84, 85, 86, 87, 88, 89, 90, 91, 2, 3, 4, 5, 6] (by decide) rfl
set_option maxRecDepth 100000 in
set_option maxHeartbeats 4000000 in
theorem fc26_J {D : va_G} {k : Nat → ClassId} {a : Nat → Nat} {S0 : CS} {H : Heap} {H1 : Heap} {A0 : Nat → Prop} {T0 : St × (Nat → St)} {T1 : St} (hP : va_P D vwCl (wMa k a S0) H) (hD : va_D A0 (wMa k a S0)) (hk : ∀ q : Nat, q < H.size → ¬ va_A (wEv k (sh a 54) S0.2.2.2.2.2.2 ++ wFl k (sh a 2) S0.2.1) H.size q → H1[q]? = H[q]?) (hF : ∀ q, va_A (wEv k (sh a 54) S0.2.2.2.2.2.2 ++ wFl k (sh a 2) S0.2.1) H.size q → A0 q) (hP1 : va_P D vwCl (wEv k (sh a 54) T0 ++ wFl k (sh a 2) T1) H1) (hD1 : va_D (va_A (wEv k (sh a 54) S0.2.2.2.2.2.2 ++ wFl k (sh a 2) S0.2.1) H.size) (wEv k (sh a 54) T0 ++ wFl k (sh a 2) T1)) : va_P D vwCl (wMa k a (xf (xe S0 T0) T1)) H1 ∧ va_D A0 (wMa k a (xf (xe S0 T0) T1)) := by
  exact cut_join hP hD [54, 55, 56, 57, 58, 59, 60, 61, 62, 63, 64, 65, 66, 67, 68, 69, 70, 71, 72, 73, 74, 75, 76, 77, 78, 79, 80, 81, 82, 83, 84, 85, 86, 87, 88, 89, 90, 91, 2, 3, 4, 5, 6] [0, 1, 7, 8, 9, 10, 11, 12, 13, 14, 15, 16, 17, 18, 19, 20, 21, 22, 23, 24, 25, 26, 27, 28, 29, 30, 31, 32, 33, 34, 35, 36, 37, 38, 39, 40, 41, 42, 43, 44, 45, 46, 47, 48, 49, 50, 51, 52, 53] [0, 1, 87, 88, 89, 90, 91, 2, 3, 4, 5, 6, 7, 8, 9, 10, 11, 12, 13, 14, 15, 16, 17, 18, 19, 20, 21, 22, 23, 24, 25, 26, 27, 28, 29, 30, 31, 32, 33, 34, 35, 36, 37, 38, 39, 40, 41, 42, 43, 44, 45, 46, 47, 48, 49, 50, 51, 52, 53, 54, 55, 56, 57, 58, 59, 60, 61, 62, 63, 64, 65, 66, 67, 68, 69, 70, 71, 72, 73, 74, 75, 76, 77, 78, 79, 80, 81, 82, 83, 84, 85, 86] (by decide) (by decide) (by decide) rfl rfl hk hF hP1 hD1 rfl

set_option maxRecDepth 100000 in
set_option maxHeartbeats 4000000 in
theorem fc27_P {D : va_G} {k : Nat → ClassId} {a : Nat → Nat} {S0 : CS} {H : Heap} (hP : va_P D vwCl (wMa k a S0) H) : va_P D vwCl (wFl k (sh a 7) S0.2.2.1 ++ wFl k (sh a 2) S0.2.1) H := by
  exact hP.sub [7, 8, 9, 10, 11, 2, 3, 4, 5, 6] rfl
set_option maxRecDepth 100000 in
set_option maxHeartbeats 4000000 in
theorem fc27_D {k : Nat → ClassId} {a : Nat → Nat} {S0 : CS} {A : Nat → Prop} (hD : va_D A (wMa k a S0)) : va_D A (wFl k (sh a 7) S0.2.2.1 ++ wFl k (sh a 2) S0.2.1) := by
  exact hD.sub [7, 8, 9, 10, 11, 2, 3, 4, 5, 6] (by decide) rfl
set_option maxRecDepth 100000 in
set_option maxHeartbeats 4000000 in
theorem fc27_J {D : va_G} {k : Nat → ClassId} {a : Nat → Nat} {S0 : CS} {H : Heap} {H1 : Heap} {A0 : Nat → Prop} {T0 : St} {T1 : St} (hP : va_P D vwCl (wMa k a S0) H) (hD : va_D A0 (wMa k a S0)) (hk : ∀ q : Nat, q < H.size → ¬ va_A (wFl k (sh a 7) S0.2.2.1 ++ wFl k (sh a 2) S0.2.1) H.size q → H1[q]? = H[q]?) (hF : ∀ q, va_A (wFl k (sh a 7) S0.2.2.1 ++ wFl k (sh a 2) S0.2.1) H.size q → A0 q) (hP1 : va_P D vwCl (wFl k (sh a 7) T0 ++ wFl k (sh a 2) T1) H1) (hD1 : va_D (va_A (wFl k (sh a 7) S0.2.2.1 ++ wFl k (sh a 2) S0.2.1) H.size) (wFl k (sh a 7) T0 ++ wFl k (sh a 2) T1)) : va_P D vwCl (wMa k a (xf (xt S0 T0) T1)) H1 ∧ va_D A0 (wMa k a (xf (xt S0 T0) T1)) := by
  exact cut_join hP hD [7, 8, 9, 10, 11, 2, 3, 4, 5, 6] [0, 1, 12, 13, 14, 15, 16, 17, 18, 19, 20, 21, 22, 23, 24, 25, 26, 27, 28, 29, 30, 31, 32, 33, 34, 35, 36, 37, 38, 39, 40, 41, 42, 43, 44, 45, 46, 47, 48, 49, 50, 51, 52, 53, 54, 55, 56, 57, 58, 59, 60, 61, 62, 63, 64, 65, 66, 67, 68, 69, 70, 71, 72, 73, 74, 75, 76, 77, 78, 79, 80, 81, 82, 83, 84, 85, 86, 87, 88, 89, 90, 91] [0, 1, 87, 88, 89, 90, 91, 82, 83, 84, 85, 86, 2, 3, 4, 5, 6, 7, 8, 9, 10, 11, 12, 13, 14, 15, 16, 17, 18, 19, 20, 21, 22, 23, 24, 25, 26, 27, 28, 29, 30, 31, 32, 33, 34, 35, 36, 37, 38, 39, 40, 41, 42, 43, 44, 45, 46, 47, 48, 49, 50, 51, 52, 53, 54, 55, 56, 57, 58, 59, 60, 61, 62, 63, 64, 65, 66, 67, 68, 69, 70, 71, 72, 73, 74, 75, 76, 77, 78, 79, 80, 81] (by decide) (by decide) (by decide) rfl rfl hk hF hP1 hD1 rfl

set_option maxRecDepth 100000 in
set_option maxHeartbeats 4000000 in
theorem fc28_P {D : va_G} {k : Nat → ClassId} {a : Nat → Nat} {S0 : CS} {H : Heap} (hP : va_P D vwCl (wMa k a S0) H) : va_P D vwCl (wFl k (sh a 2) S0.2.1 ++ wFl k (sh a 7) S0.2.2.1) H := by
  exact hP.sub [2, 3, 4, 5, 6, 7, 8, 9, 10, 11] rfl
set_option maxRecDepth 100000 in
set_option maxHeartbeats 4000000 in
theorem fc28_D {k : Nat → ClassId} {a : Nat → Nat} {S0 : CS} {A : Nat → Prop} (hD : va_D A (wMa k a S0)) : va_D A (wFl k (sh a 2) S0.2.1 ++ wFl k (sh a 7) S0.2.2.1) := by
  exact hD.sub [2, 3, 4, 5, 6, 7, 8, 9, 10, 11] (by decide) rfl
set_option maxRecDepth 100000 in
set_option maxHeartbeats 4000000 in
theorem fc28_J {D : va_G} {k : Nat → ClassId} {a : Nat → Nat} {S0 : CS} {H : Heap} {H1 : Heap} {A0 : Nat → Prop} {T0 : St} {T1 : St} (hP : va_P D vwCl (wMa k a S0) H) (hD : va_D A0 (wMa k a S0)) (hk : ∀ q : Nat, q < H.size → ¬ va_A (wFl k (sh a 2) S0.2.1 ++ wFl k (sh a 7) S0.2.2.1) H.size q → H1[q]? = H[q]?) (hF : ∀ q, va_A (wFl k (sh a 2) S0.2.1 ++ wFl k (sh a 7) S0.2.2.1) H.size q → A0 q) (hP1 : va_P D vwCl (wFl k (sh a 2) T0 ++ wFl k (sh a 7) T1) H1) (hD1 : va_D (va_A (wFl k (sh a 2) S0.2.1 ++ wFl k (sh a 7) S0.2.2.1) H.size) (wFl k (sh a 2) T0 ++ wFl k (sh a 7) T1)) : va_P D vwCl (wMa k a (xt (xf S0 T0) T1)) H1 ∧ va_D A0 (wMa k a (xt (xf S0 T0) T1)) := by
  exact cut_join hP hD [2, 3, 4, 5, 6, 7, 8, 9, 10, 11] [0, 1, 12, 13, 14, 15, 16, 17, 18, 19, 20, 21, 22, 23, 24, 25, 26, 27, 28, 29, 30, 31, 32, 33, 34, 35, 36, 37, 38, 39, 40, 41, 42, 43, 44, 45, 46, 47, 48, 49, 50, 51, 52, 53, 54, 55, 56, 57, 58, 59, 60, 61, 62, 63, 64, 65, 66, 67, 68, 69, 70, 71, 72, 73, 74, 75, 76, 77, 78, 79, 80, 81, 82, 83, 84, 85, 86, 87, 88, 89, 90, 91] [0, 1, 82, 83, 84, 85, 86, 87, 88, 89, 90, 91, 2, 3, 4, 5, 6, 7, 8, 9, 10, 11, 12, 13, 14, 15, 16, 17, 18, 19, 20, 21, 22, 23, 24, 25, 26, 27, 28, 29, 30, 31, 32, 33, 34, 35, 36, 37, 38, 39, 40, 41, 42, 43, 44, 45, 46, 47, 48, 49, 50, 51, 52, 53, 54, 55, 56, 57, 58, 59, 60, 61, 62, 63, 64, 65, 66, 67, 68, 69, 70, 71, 72, 73, 74, 75, 76, 77, 78, 79, 80, 81] (by decide) (by decide) (by decide) rfl rfl hk hF hP1 hD1 rfl
