set_option maxRecDepth 100000 in
set_option maxHeartbeats 4000000 in
theorem fc0_p {k : Nat → ClassId} {a b : Nat → Nat} {S0 : St} {S1 : St} : (wEn k a S0 ++ wFl k b S1).Perm ((wFl k b S1) ++ (wEn k a S0)) := by
  refine pm_iff (fun _ x => ?_)
  simp only [List.count_append, List.count_nil, Nat.mul_zero, Nat.add_zero, Nat.zero_add]
  try omega
set_option maxRecDepth 100000 in
set_option maxHeartbeats 4000000 in
theorem fc0_q {k : Nat → ClassId} {a b : Nat → Nat} {S0 : St} {S1 : St} {T0 : St} : (wEn k a S0 ++ wFl k b T0).Perm ((wFl k b T0) ++ (wEn k a S0)) := by
  refine pm_iff (fun _ x => ?_)
  simp only [List.count_append, List.count_nil, Nat.mul_zero, Nat.add_zero, Nat.zero_add]
  try omega
theorem fc0_P {D : va_G} {k : Nat → ClassId} {a b : Nat → Nat} {S0 : St} {S1 : St} {H : Heap} (hP : va_P D vwCl (wEn k a S0 ++ wFl k b S1) H) : va_P D vwCl (wFl k b S1) H := pf_P (fc0_p (S0 := S0) (S1 := S1)) hP
theorem fc0_D {k : Nat → ClassId} {a b : Nat → Nat} {S0 : St} {S1 : St} {A : Nat → Prop} (hD : va_D A (wEn k a S0 ++ wFl k b S1)) : va_D A (wFl k b S1) := pf_D (fc0_p (S0 := S0) (S1 := S1)) hD
theorem fc0_J {D : va_G} {k : Nat → ClassId} {a b : Nat → Nat} {S0 : St} {S1 : St} {H : Heap} {H1 : Heap} {A0 : Nat → Prop} {T0 : St} (hP : va_P D vwCl (wEn k a S0 ++ wFl k b S1) H) (hD : va_D A0 (wEn k a S0 ++ wFl k b S1)) (hk : ∀ q : Nat, q < H.size → ¬ va_A (wFl k b S1) H.size q → H1[q]? = H[q]?) (hF : ∀ q, va_A (wFl k b S1) H.size q → A0 q) (hP1 : va_P D vwCl (wFl k b T0) H1) (hD1 : va_D (va_A (wFl k b S1) H.size) (wFl k b T0)) : va_P D vwCl (wEn k a S0 ++ wFl k b T0) H1 ∧ va_D A0 (wEn k a S0 ++ wFl k b T0) := pf_J (fc0_p (S0 := S0) (S1 := S1)) (fc0_q (S0 := S0) (S1 := S1)) hP hD hk hF hP1 hD1

set_option maxRecDepth 100000 in
set_option maxHeartbeats 4000000 in
theorem fc1_p {k : Nat → ClassId} {a b : Nat → Nat} {S0 : St × (Nat → St)} {S1 : St} : (wEv k a S0 ++ wFl k b S1).Perm ((wFl k (sh a 3) (S0.2 0) ++ wFl k b S1) ++ ((hEv k a S0.1 ++ famW (off (fun i => wFl k (sh a (3 + 5 * i)) (S0.2 i)) 0) 7))) := by
  refine pm_iff (fun _ x => ?_)
  have e0 := (fam1 (fun i s => wFl k (sh a (3 + 5 * i)) s) S0.2 (show 0 < 7 by decide)).count_eq x
  simp only [wEv, List.count_append, List.count_nil, Nat.mul_zero, Nat.add_zero, Nat.zero_add] at e0 ⊢
  try omega
set_option maxRecDepth 100000 in
set_option maxHeartbeats 4000000 in
theorem fc1_q {k : Nat → ClassId} {a b : Nat → Nat} {S0 : St × (Nat → St)} {S1 : St} {T0 : St} {T1 : St} : (wEv k a (S0.1, va_up S0.2 0 T0) ++ wFl k b T1).Perm ((wFl k (sh a 3) T0 ++ wFl k b T1) ++ ((hEv k a S0.1 ++ famW (off (fun i => wFl k (sh a (3 + 5 * i)) (S0.2 i)) 0) 7))) := by
  refine pm_iff (fun _ x => ?_)
  have e0 := (fam1u (fun i s => wFl k (sh a (3 + 5 * i)) s) S0.2 T0 (show 0 < 7 by decide)).count_eq x
  simp only [wEv, List.count_append, List.count_nil, Nat.mul_zero, Nat.add_zero, Nat.zero_add] at e0 ⊢
  try omega
theorem fc1_P {D : va_G} {k : Nat → ClassId} {a b : Nat → Nat} {S0 : St × (Nat → St)} {S1 : St} {H : Heap} (hP : va_P D vwCl (wEv k a S0 ++ wFl k b S1) H) : va_P D vwCl (wFl k (sh a 3) (S0.2 0) ++ wFl k b S1) H := pf_P (fc1_p (S0 := S0) (S1 := S1)) hP
theorem fc1_D {k : Nat → ClassId} {a b : Nat → Nat} {S0 : St × (Nat → St)} {S1 : St} {A : Nat → Prop} (hD : va_D A (wEv k a S0 ++ wFl k b S1)) : va_D A (wFl k (sh a 3) (S0.2 0) ++ wFl k b S1) := pf_D (fc1_p (S0 := S0) (S1 := S1)) hD
theorem fc1_J {D : va_G} {k : Nat → ClassId} {a b : Nat → Nat} {S0 : St × (Nat → St)} {S1 : St} {H : Heap} {H1 : Heap} {A0 : Nat → Prop} {T0 : St} {T1 : St} (hP : va_P D vwCl (wEv k a S0 ++ wFl k b S1) H) (hD : va_D A0 (wEv k a S0 ++ wFl k b S1)) (hk : ∀ q : Nat, q < H.size → ¬ va_A (wFl k (sh a 3) (S0.2 0) ++ wFl k b S1) H.size q → H1[q]? = H[q]?) (hF : ∀ q, va_A (wFl k (sh a 3) (S0.2 0) ++ wFl k b S1) H.size q → A0 q) (hP1 : va_P D vwCl (wFl k (sh a 3) T0 ++ wFl k b T1) H1) (hD1 : va_D (va_A (wFl k (sh a 3) (S0.2 0) ++ wFl k b S1) H.size) (wFl k (sh a 3) T0 ++ wFl k b T1)) : va_P D vwCl (wEv k a (S0.1, va_up S0.2 0 T0) ++ wFl k b T1) H1 ∧ va_D A0 (wEv k a (S0.1, va_up S0.2 0 T0) ++ wFl k b T1) := pf_J (fc1_p (S0 := S0) (S1 := S1)) (fc1_q (S0 := S0) (S1 := S1)) hP hD hk hF hP1 hD1

set_option maxRecDepth 100000 in
set_option maxHeartbeats 4000000 in
theorem fc2_p {k : Nat → ClassId} {a b : Nat → Nat} {S0 : St × (Nat → St)} {S1 : St} : (wEv k a S0 ++ wFl k b S1).Perm ((wFl k (sh a 3) (S0.2 0)) ++ ((hEv k a S0.1 ++ famW (off (fun i => wFl k (sh a (3 + 5 * i)) (S0.2 i)) 0) 7) ++ wFl k b S1)) := by
  refine pm_iff (fun _ x => ?_)
  have e0 := (fam1 (fun i s => wFl k (sh a (3 + 5 * i)) s) S0.2 (show 0 < 7 by decide)).count_eq x
  simp only [wEv, List.count_append, List.count_nil, Nat.mul_zero, Nat.add_zero, Nat.zero_add] at e0 ⊢
  try omega
set_option maxRecDepth 100000 in
set_option maxHeartbeats 4000000 in
theorem fc2_q {k : Nat → ClassId} {a b : Nat → Nat} {S0 : St × (Nat → St)} {S1 : St} {T0 : St} : (wEv k a (S0.1, va_up S0.2 0 T0) ++ wFl k b S1).Perm ((wFl k (sh a 3) T0) ++ ((hEv k a S0.1 ++ famW (off (fun i => wFl k (sh a (3 + 5 * i)) (S0.2 i)) 0) 7) ++ wFl k b S1)) := by
  refine pm_iff (fun _ x => ?_)
  have e0 := (fam1u (fun i s => wFl k (sh a (3 + 5 * i)) s) S0.2 T0 (show 0 < 7 by decide)).count_eq x
  simp only [wEv, List.count_append, List.count_nil, Nat.mul_zero, Nat.add_zero, Nat.zero_add] at e0 ⊢
  try omega
theorem fc2_P {D : va_G} {k : Nat → ClassId} {a b : Nat → Nat} {S0 : St × (Nat → St)} {S1 : St} {H : Heap} (hP : va_P D vwCl (wEv k a S0 ++ wFl k b S1) H) : va_P D vwCl (wFl k (sh a 3) (S0.2 0)) H := pf_P (fc2_p (S0 := S0) (S1 := S1)) hP
theorem fc2_D {k : Nat → ClassId} {a b : Nat → Nat} {S0 : St × (Nat → St)} {S1 : St} {A : Nat → Prop} (hD : va_D A (wEv k a S0 ++ wFl k b S1)) : va_D A (wFl k (sh a 3) (S0.2 0)) := pf_D (fc2_p (S0 := S0) (S1 := S1)) hD
theorem fc2_J {D : va_G} {k : Nat → ClassId} {a b : Nat → Nat} {S0 : St × (Nat → St)} {S1 : St} {H : Heap} {H1 : Heap} {A0 : Nat → Prop} {T0 : St} (hP : va_P D vwCl (wEv k a S0 ++ wFl k b S1) H) (hD : va_D A0 (wEv k a S0 ++ wFl k b S1)) (hk : ∀ q : Nat, q < H.size → ¬ va_A (wFl k (sh a 3) (S0.2 0)) H.size q → H1[q]? = H[q]?) (hF : ∀ q, va_A (wFl k (sh a 3) (S0.2 0)) H.size q → A0 q) (hP1 : va_P D vwCl (wFl k (sh a 3) T0) H1) (hD1 : va_D (va_A (wFl k (sh a 3) (S0.2 0)) H.size) (wFl k (sh a 3) T0)) : va_P D vwCl (wEv k a (S0.1, va_up S0.2 0 T0) ++ wFl k b S1) H1 ∧ va_D A0 (wEv k a (S0.1, va_up S0.2 0 T0) ++ wFl k b S1) := pf_J (fc2_p (S0 := S0) (S1 := S1)) (fc2_q (S0 := S0) (S1 := S1)) hP hD hk hF hP1 hD1

set_option maxRecDepth 100000 in
set_option maxHeartbeats 4000000 in
theorem fc3_p {k : Nat → ClassId} {a : Nat → Nat} {S0 : St × (Nat → St)} {j1 : Nat} (hj1 : j1 < 7) : (wEv k a S0).Perm ((wFl k (sh a (3 + 5 * j1)) (S0.2 j1)) ++ ((hEv k a S0.1 ++ famW (off (fun i => wFl k (sh a (3 + 5 * i)) (S0.2 i)) j1) 7))) := by
  refine pm_iff (fun _ x => ?_)
  have e0 := (fam1 (fun i s => wFl k (sh a (3 + 5 * i)) s) S0.2 hj1).count_eq x
  simp only [wEv, List.count_append, List.count_nil, Nat.mul_zero, Nat.add_zero, Nat.zero_add] at e0 ⊢
  try omega
set_option maxRecDepth 100000 in
set_option maxHeartbeats 4000000 in
theorem fc3_q {k : Nat → ClassId} {a : Nat → Nat} {S0 : St × (Nat → St)} {T0 : St} {j1 : Nat} (hj1 : j1 < 7) : (wEv k a (S0.1, va_up S0.2 j1 T0)).Perm ((wFl k (sh a (3 + 5 * j1)) T0) ++ ((hEv k a S0.1 ++ famW (off (fun i => wFl k (sh a (3 + 5 * i)) (S0.2 i)) j1) 7))) := by
  refine pm_iff (fun _ x => ?_)
  have e0 := (fam1u (fun i s => wFl k (sh a (3 + 5 * i)) s) S0.2 T0 hj1).count_eq x
  simp only [wEv, List.count_append, List.count_nil, Nat.mul_zero, Nat.add_zero, Nat.zero_add] at e0 ⊢
  try omega
theorem fc3_P {D : va_G} {k : Nat → ClassId} {a : Nat → Nat} {S0 : St × (Nat → St)} {H : Heap} {j1 : Nat} (hj1 : j1 < 7) (hP : va_P D vwCl (wEv k a S0) H) : va_P D vwCl (wFl k (sh a (3 + 5 * j1)) (S0.2 j1)) H := pf_P (fc3_p (S0 := S0) hj1) hP
theorem fc3_D {k : Nat → ClassId} {a : Nat → Nat} {S0 : St × (Nat → St)} {A : Nat → Prop} {j1 : Nat} (hj1 : j1 < 7) (hD : va_D A (wEv k a S0)) : va_D A (wFl k (sh a (3 + 5 * j1)) (S0.2 j1)) := pf_D (fc3_p (S0 := S0) hj1) hD
theorem fc3_J {D : va_G} {k : Nat → ClassId} {a : Nat → Nat} {S0 : St × (Nat → St)} {H : Heap} {H1 : Heap} {A0 : Nat → Prop} {T0 : St} {j1 : Nat} (hj1 : j1 < 7) (hP : va_P D vwCl (wEv k a S0) H) (hD : va_D A0 (wEv k a S0)) (hk : ∀ q : Nat, q < H.size → ¬ va_A (wFl k (sh a (3 + 5 * j1)) (S0.2 j1)) H.size q → H1[q]? = H[q]?) (hF : ∀ q, va_A (wFl k (sh a (3 + 5 * j1)) (S0.2 j1)) H.size q → A0 q) (hP1 : va_P D vwCl (wFl k (sh a (3 + 5 * j1)) T0) H1) (hD1 : va_D (va_A (wFl k (sh a (3 + 5 * j1)) (S0.2 j1)) H.size) (wFl k (sh a (3 + 5 * j1)) T0)) : va_P D vwCl (wEv k a (S0.1, va_up S0.2 j1 T0)) H1 ∧ va_D A0 (wEv k a (S0.1, va_up S0.2 j1 T0)) := pf_J (fc3_p (S0 := S0) hj1) (fc3_q (S0 := S0) hj1) hP hD hk hF hP1 hD1

set_option maxRecDepth 100000 in
set_option maxHeartbeats 4000000 in
theorem fc4_p {k : Nat → ClassId} {a : Nat → Nat} {S0 : St × (Nat → St)} {j1 : Nat} (hj1 : j1 < 7) {j2 : Nat} (hj2 : j2 < 7) (hne : j1 ≠ j2) : (wEv k a S0).Perm ((wFl k (sh a (3 + 5 * j1)) (S0.2 j1) ++ wFl k (sh a (3 + 5 * j2)) (S0.2 j2)) ++ ((hEv k a S0.1 ++ famW (off (off (fun i => wFl k (sh a (3 + 5 * i)) (S0.2 i)) j2) j1) 7))) := by
  refine pm_iff (fun _ x => ?_)
  have e0 := (fam2 (fun i s => wFl k (sh a (3 + 5 * i)) s) S0.2 hj1 hj2 hne).count_eq x
  simp only [wEv, List.count_append, List.count_nil, Nat.mul_zero, Nat.add_zero, Nat.zero_add] at e0 ⊢
  try omega
set_option maxRecDepth 100000 in
set_option maxHeartbeats 4000000 in
theorem fc4_q {k : Nat → ClassId} {a : Nat → Nat} {S0 : St × (Nat → St)} {T0 : St} {T1 : St} {j1 : Nat} (hj1 : j1 < 7) {j2 : Nat} (hj2 : j2 < 7) (hne : j1 ≠ j2) : (wEv k a ((S0.1, va_up S0.2 j1 T0).1, va_up (S0.1, va_up S0.2 j1 T0).2 j2 T1)).Perm ((wFl k (sh a (3 + 5 * j1)) T0 ++ wFl k (sh a (3 + 5 * j2)) T1) ++ ((hEv k a S0.1 ++ famW (off (off (fun i => wFl k (sh a (3 + 5 * i)) (S0.2 i)) j2) j1) 7))) := by
  refine pm_iff (fun _ x => ?_)
  have e0 := (fam2u (fun i s => wFl k (sh a (3 + 5 * i)) s) S0.2 T0 T1 hj1 hj2 hne).count_eq x
  simp only [wEv, List.count_append, List.count_nil, Nat.mul_zero, Nat.add_zero, Nat.zero_add] at e0 ⊢
  try omega
theorem fc4_P {D : va_G} {k : Nat → ClassId} {a : Nat → Nat} {S0 : St × (Nat → St)} {H : Heap} {j1 : Nat} (hj1 : j1 < 7) {j2 : Nat} (hj2 : j2 < 7) (hne : j1 ≠ j2) (hP : va_P D vwCl (wEv k a S0) H) : va_P D vwCl (wFl k (sh a (3 + 5 * j1)) (S0.2 j1) ++ wFl k (sh a (3 + 5 * j2)) (S0.2 j2)) H := pf_P (fc4_p (S0 := S0) hj1 hj2 hne) hP
theorem fc4_D {k : Nat → ClassId} {a : Nat → Nat} {S0 : St × (Nat → St)} {A : Nat → Prop} {j1 : Nat} (hj1 : j1 < 7) {j2 : Nat} (hj2 : j2 < 7) (hne : j1 ≠ j2) (hD : va_D A (wEv k a S0)) : va_D A (wFl k (sh a (3 + 5 * j1)) (S0.2 j1) ++ wFl k (sh a (3 + 5 * j2)) (S0.2 j2)) := pf_D (fc4_p (S0 := S0) hj1 hj2 hne) hD
theorem fc4_J {D : va_G} {k : Nat → ClassId} {a : Nat → Nat} {S0 : St × (Nat → St)} {H : Heap} {H1 : Heap} {A0 : Nat → Prop} {T0 : St} {T1 : St} {j1 : Nat} (hj1 : j1 < 7) {j2 : Nat} (hj2 : j2 < 7) (hne : j1 ≠ j2) (hP : va_P D vwCl (wEv k a S0) H) (hD : va_D A0 (wEv k a S0)) (hk : ∀ q : Nat, q < H.size → ¬ va_A (wFl k (sh a (3 + 5 * j1)) (S0.2 j1) ++ wFl k (sh a (3 + 5 * j2)) (S0.2 j2)) H.size q → H1[q]? = H[q]?) (hF : ∀ q, va_A (wFl k (sh a (3 + 5 * j1)) (S0.2 j1) ++ wFl k (sh a (3 + 5 * j2)) (S0.2 j2)) H.size q → A0 q) (hP1 : va_P D vwCl (wFl k (sh a (3 + 5 * j1)) T0 ++ wFl k (sh a (3 + 5 * j2)) T1) H1) (hD1 : va_D (va_A (wFl k (sh a (3 + 5 * j1)) (S0.2 j1) ++ wFl k (sh a (3 + 5 * j2)) (S0.2 j2)) H.size) (wFl k (sh a (3 + 5 * j1)) T0 ++ wFl k (sh a (3 + 5 * j2)) T1)) : va_P D vwCl (wEv k a ((S0.1, va_up S0.2 j1 T0).1, va_up (S0.1, va_up S0.2 j1 T0).2 j2 T1)) H1 ∧ va_D A0 (wEv k a ((S0.1, va_up S0.2 j1 T0).1, va_up (S0.1, va_up S0.2 j1 T0).2 j2 T1)) := pf_J (fc4_p (S0 := S0) hj1 hj2 hne) (fc4_q (S0 := S0) hj1 hj2 hne) hP hD hk hF hP1 hD1

set_option maxRecDepth 100000 in
set_option maxHeartbeats 4000000 in
theorem fc5_p {k : Nat → ClassId} {a b : Nat → Nat} {S0 : St × (Nat → St)} {S1 : St} : (wEv k a S0 ++ wFl k b S1).Perm ((wEv k a S0) ++ (wFl k b S1)) := by
  refine pm_iff (fun _ x => ?_)
  simp only [List.count_append, List.count_nil, Nat.mul_zero, Nat.add_zero, Nat.zero_add]
  try omega
set_option maxRecDepth 100000 in
set_option maxHeartbeats 4000000 in
theorem fc5_q {k : Nat → ClassId} {a b : Nat → Nat} {S0 : St × (Nat → St)} {S1 : St} {T0 : St × (Nat → St)} : (wEv k a T0 ++ wFl k b S1).Perm ((wEv k a T0) ++ (wFl k b S1)) := by
  refine pm_iff (fun _ x => ?_)
  simp only [List.count_append, List.count_nil, Nat.mul_zero, Nat.add_zero, Nat.zero_add]
  try omega
theorem fc5_P {D : va_G} {k : Nat → ClassId} {a b : Nat → Nat} {S0 : St × (Nat → St)} {S1 : St} {H : Heap} (hP : va_P D vwCl (wEv k a S0 ++ wFl k b S1) H) : va_P D vwCl (wEv k a S0) H := pf_P (fc5_p (S0 := S0) (S1 := S1)) hP
theorem fc5_D {k : Nat → ClassId} {a b : Nat → Nat} {S0 : St × (Nat → St)} {S1 : St} {A : Nat → Prop} (hD : va_D A (wEv k a S0 ++ wFl k b S1)) : va_D A (wEv k a S0) := pf_D (fc5_p (S0 := S0) (S1 := S1)) hD
theorem fc5_J {D : va_G} {k : Nat → ClassId} {a b : Nat → Nat} {S0 : St × (Nat → St)} {S1 : St} {H : Heap} {H1 : Heap} {A0 : Nat → Prop} {T0 : St × (Nat → St)} (hP : va_P D vwCl (wEv k a S0 ++ wFl k b S1) H) (hD : va_D A0 (wEv k a S0 ++ wFl k b S1)) (hk : ∀ q : Nat, q < H.size → ¬ va_A (wEv k a S0) H.size q → H1[q]? = H[q]?) (hF : ∀ q, va_A (wEv k a S0) H.size q → A0 q) (hP1 : va_P D vwCl (wEv k a T0) H1) (hD1 : va_D (va_A (wEv k a S0) H.size) (wEv k a T0)) : va_P D vwCl (wEv k a T0 ++ wFl k b S1) H1 ∧ va_D A0 (wEv k a T0 ++ wFl k b S1) := pf_J (fc5_p (S0 := S0) (S1 := S1)) (fc5_q (S0 := S0) (S1 := S1)) hP hD hk hF hP1 hD1

set_option maxRecDepth 100000 in
set_option maxHeartbeats 4000000 in
theorem fc6_p {k : Nat → ClassId} {a b : Nat → Nat} {S0 : Nat → St} {S1 : St} : (wHo k a S0 ++ wFl k b S1).Perm ((wEn k (sh a 2) (S0 0) ++ wFl k b S1) ++ ((hHo k a ++ famW (off (fun i => wEn k (sh a (2 + 4 * i)) (S0 i)) 0) 4))) := by
  refine pm_iff (fun _ x => ?_)
  have e0 := (fam1 (fun i s => wEn k (sh a (2 + 4 * i)) s) S0 (show 0 < 4 by decide)).count_eq x
  simp only [wHo, List.count_append, List.count_nil, Nat.mul_zero, Nat.add_zero, Nat.zero_add] at e0 ⊢
  try omega
set_option maxRecDepth 100000 in
set_option maxHeartbeats 4000000 in
theorem fc6_q {k : Nat → ClassId} {a b : Nat → Nat} {S0 : Nat → St} {S1 : St} {T0 : St} {T1 : St} : (wHo k a (va_up S0 0 T0) ++ wFl k b T1).Perm ((wEn k (sh a 2) T0 ++ wFl k b T1) ++ ((hHo k a ++ famW (off (fun i => wEn k (sh a (2 + 4 * i)) (S0 i)) 0) 4))) := by
  refine pm_iff (fun _ x => ?_)
  have e0 := (fam1u (fun i s => wEn k (sh a (2 + 4 * i)) s) S0 T0 (show 0 < 4 by decide)).count_eq x
  simp only [wHo, List.count_append, List.count_nil, Nat.mul_zero, Nat.add_zero, Nat.zero_add] at e0 ⊢
  try omega
theorem fc6_P {D : va_G} {k : Nat → ClassId} {a b : Nat → Nat} {S0 : Nat → St} {S1 : St} {H : Heap} (hP : va_P D vwCl (wHo k a S0 ++ wFl k b S1) H) : va_P D vwCl (wEn k (sh a 2) (S0 0) ++ wFl k b S1) H := pf_P (fc6_p (S0 := S0) (S1 := S1)) hP
theorem fc6_D {k : Nat → ClassId} {a b : Nat → Nat} {S0 : Nat → St} {S1 : St} {A : Nat → Prop} (hD : va_D A (wHo k a S0 ++ wFl k b S1)) : va_D A (wEn k (sh a 2) (S0 0) ++ wFl k b S1) := pf_D (fc6_p (S0 := S0) (S1 := S1)) hD
theorem fc6_J {D : va_G} {k : Nat → ClassId} {a b : Nat → Nat} {S0 : Nat → St} {S1 : St} {H : Heap} {H1 : Heap} {A0 : Nat → Prop} {T0 : St} {T1 : St} (hP : va_P D vwCl (wHo k a S0 ++ wFl k b S1) H) (hD : va_D A0 (wHo k a S0 ++ wFl k b S1)) (hk : ∀ q : Nat, q < H.size → ¬ va_A (wEn k (sh a 2) (S0 0) ++ wFl k b S1) H.size q → H1[q]? = H[q]?) (hF : ∀ q, va_A (wEn k (sh a 2) (S0 0) ++ wFl k b S1) H.size q → A0 q) (hP1 : va_P D vwCl (wEn k (sh a 2) T0 ++ wFl k b T1) H1) (hD1 : va_D (va_A (wEn k (sh a 2) (S0 0) ++ wFl k b S1) H.size) (wEn k (sh a 2) T0 ++ wFl k b T1)) : va_P D vwCl (wHo k a (va_up S0 0 T0) ++ wFl k b T1) H1 ∧ va_D A0 (wHo k a (va_up S0 0 T0) ++ wFl k b T1) := pf_J (fc6_p (S0 := S0) (S1 := S1)) (fc6_q (S0 := S0) (S1 := S1)) hP hD hk hF hP1 hD1

set_option maxRecDepth 100000 in
set_option maxHeartbeats 4000000 in
theorem fc7_p {k : Nat → ClassId} {a b : Nat → Nat} {S0 : Nat → St} {S1 : St} : (wHo k a S0 ++ wFl k b S1).Perm ((wEn k (sh a 2) (S0 0)) ++ ((hHo k a ++ famW (off (fun i => wEn k (sh a (2 + 4 * i)) (S0 i)) 0) 4) ++ wFl k b S1)) := by
  refine pm_iff (fun _ x => ?_)
  have e0 := (fam1 (fun i s => wEn k (sh a (2 + 4 * i)) s) S0 (show 0 < 4 by decide)).count_eq x
  simp only [wHo, List.count_append, List.count_nil, Nat.mul_zero, Nat.add_zero, Nat.zero_add] at e0 ⊢
  try omega
set_option maxRecDepth 100000 in
set_option maxHeartbeats 4000000 in
theorem fc7_q {k : Nat → ClassId} {a b : Nat → Nat} {S0 : Nat → St} {S1 : St} {T0 : St} : (wHo k a (va_up S0 0 T0) ++ wFl k b S1).Perm ((wEn k (sh a 2) T0) ++ ((hHo k a ++ famW (off (fun i => wEn k (sh a (2 + 4 * i)) (S0 i)) 0) 4) ++ wFl k b S1)) := by
  refine pm_iff (fun _ x => ?_)
  have e0 := (fam1u (fun i s => wEn k (sh a (2 + 4 * i)) s) S0 T0 (show 0 < 4 by decide)).count_eq x
  simp only [wHo, List.count_append, List.count_nil, Nat.mul_zero, Nat.add_zero, Nat.zero_add] at e0 ⊢
  try omega
theorem fc7_P {D : va_G} {k : Nat → ClassId} {a b : Nat → Nat} {S0 : Nat → St} {S1 : St} {H : Heap} (hP : va_P D vwCl (wHo k a S0 ++ wFl k b S1) H) : va_P D vwCl (wEn k (sh a 2) (S0 0)) H := pf_P (fc7_p (S0 := S0) (S1 := S1)) hP
theorem fc7_D {k : Nat → ClassId} {a b : Nat → Nat} {S0 : Nat → St} {S1 : St} {A : Nat → Prop} (hD : va_D A (wHo k a S0 ++ wFl k b S1)) : va_D A (wEn k (sh a 2) (S0 0)) := pf_D (fc7_p (S0 := S0) (S1 := S1)) hD
theorem fc7_J {D : va_G} {k : Nat → ClassId} {a b : Nat → Nat} {S0 : Nat → St} {S1 : St} {H : Heap} {H1 : Heap} {A0 : Nat → Prop} {T0 : St} (hP : va_P D vwCl (wHo k a S0 ++ wFl k b S1) H) (hD : va_D A0 (wHo k a S0 ++ wFl k b S1)) (hk : ∀ q : Nat, q < H.size → ¬ va_A (wEn k (sh a 2) (S0 0)) H.size q → H1[q]? = H[q]?) (hF : ∀ q, va_A (wEn k (sh a 2) (S0 0)) H.size q → A0 q) (hP1 : va_P D vwCl (wEn k (sh a 2) T0) H1) (hD1 : va_D (va_A (wEn k (sh a 2) (S0 0)) H.size) (wEn k (sh a 2) T0)) : va_P D vwCl (wHo k a (va_up S0 0 T0) ++ wFl k b S1) H1 ∧ va_D A0 (wHo k a (va_up S0 0 T0) ++ wFl k b S1) := pf_J (fc7_p (S0 := S0) (S1 := S1)) (fc7_q (S0 := S0) (S1 := S1)) hP hD hk hF hP1 hD1

set_option maxRecDepth 100000 in
set_option maxHeartbeats 4000000 in
theorem fc8_p {k : Nat → ClassId} {a b : Nat → Nat} {S0 : Nat → St} {S1 : St} : (wHo k a S0 ++ wFl k b S1).Perm ((wFl k b S1) ++ (wHo k a S0)) := by
  refine pm_iff (fun _ x => ?_)
  simp only [List.count_append, List.count_nil, Nat.mul_zero, Nat.add_zero, Nat.zero_add]
  try omega
set_option maxRecDepth 100000 in
set_option maxHeartbeats 4000000 in
theorem fc8_q {k : Nat → ClassId} {a b : Nat → Nat} {S0 : Nat → St} {S1 : St} {T0 : St} : (wHo k a S0 ++ wFl k b T0).Perm ((wFl k b T0) ++ (wHo k a S0)) := by
  refine pm_iff (fun _ x => ?_)
  simp only [List.count_append, List.count_nil, Nat.mul_zero, Nat.add_zero, Nat.zero_add]
  try omega
theorem fc8_P {D : va_G} {k : Nat → ClassId} {a b : Nat → Nat} {S0 : Nat → St} {S1 : St} {H : Heap} (hP : va_P D vwCl (wHo k a S0 ++ wFl k b S1) H) : va_P D vwCl (wFl k b S1) H := pf_P (fc8_p (S0 := S0) (S1 := S1)) hP
theorem fc8_D {k : Nat → ClassId} {a b : Nat → Nat} {S0 : Nat → St} {S1 : St} {A : Nat → Prop} (hD : va_D A (wHo k a S0 ++ wFl k b S1)) : va_D A (wFl k b S1) := pf_D (fc8_p (S0 := S0) (S1 := S1)) hD
theorem fc8_J {D : va_G} {k : Nat → ClassId} {a b : Nat → Nat} {S0 : Nat → St} {S1 : St} {H : Heap} {H1 : Heap} {A0 : Nat → Prop} {T0 : St} (hP : va_P D vwCl (wHo k a S0 ++ wFl k b S1) H) (hD : va_D A0 (wHo k a S0 ++ wFl k b S1)) (hk : ∀ q : Nat, q < H.size → ¬ va_A (wFl k b S1) H.size q → H1[q]? = H[q]?) (hF : ∀ q, va_A (wFl k b S1) H.size q → A0 q) (hP1 : va_P D vwCl (wFl k b T0) H1) (hD1 : va_D (va_A (wFl k b S1) H.size) (wFl k b T0)) : va_P D vwCl (wHo k a S0 ++ wFl k b T0) H1 ∧ va_D A0 (wHo k a S0 ++ wFl k b T0) := pf_J (fc8_p (S0 := S0) (S1 := S1)) (fc8_q (S0 := S0) (S1 := S1)) hP hD hk hF hP1 hD1

set_option maxRecDepth 100000 in
set_option maxHeartbeats 4000000 in
theorem fc9_p {k : Nat → ClassId} {a b : Nat → Nat} {S0 : Nat → St} {S1 : St} {j1 : Nat} (hj1 : j1 < 4) : (wHo k a S0 ++ wFl k b S1).Perm ((wEn k (sh a (2 + 4 * j1)) (S0 j1)) ++ ((hHo k a ++ famW (off (fun i => wEn k (sh a (2 + 4 * i)) (S0 i)) j1) 4) ++ wFl k b S1)) := by
  refine pm_iff (fun _ x => ?_)
  have e0 := (fam1 (fun i s => wEn k (sh a (2 + 4 * i)) s) S0 hj1).count_eq x
  simp only [wHo, List.count_append, List.count_nil, Nat.mul_zero, Nat.add_zero, Nat.zero_add] at e0 ⊢
  try omega
set_option maxRecDepth 100000 in
set_option maxHeartbeats 4000000 in
theorem fc9_q {k : Nat → ClassId} {a b : Nat → Nat} {S0 : Nat → St} {S1 : St} {T0 : St} {j1 : Nat} (hj1 : j1 < 4) : (wHo k a (va_up S0 j1 T0) ++ wFl k b S1).Perm ((wEn k (sh a (2 + 4 * j1)) T0) ++ ((hHo k a ++ famW (off (fun i => wEn k (sh a (2 + 4 * i)) (S0 i)) j1) 4) ++ wFl k b S1)) := by
  refine pm_iff (fun _ x => ?_)
  have e0 := (fam1u (fun i s => wEn k (sh a (2 + 4 * i)) s) S0 T0 hj1).count_eq x
  simp only [wHo, List.count_append, List.count_nil, Nat.mul_zero, Nat.add_zero, Nat.zero_add] at e0 ⊢
  try omega
theorem fc9_P {D : va_G} {k : Nat → ClassId} {a b : Nat → Nat} {S0 : Nat → St} {S1 : St} {H : Heap} {j1 : Nat} (hj1 : j1 < 4) (hP : va_P D vwCl (wHo k a S0 ++ wFl k b S1) H) : va_P D vwCl (wEn k (sh a (2 + 4 * j1)) (S0 j1)) H := pf_P (fc9_p (S0 := S0) (S1 := S1) hj1) hP
theorem fc9_D {k : Nat → ClassId} {a b : Nat → Nat} {S0 : Nat → St} {S1 : St} {A : Nat → Prop} {j1 : Nat} (hj1 : j1 < 4) (hD : va_D A (wHo k a S0 ++ wFl k b S1)) : va_D A (wEn k (sh a (2 + 4 * j1)) (S0 j1)) := pf_D (fc9_p (S0 := S0) (S1 := S1) hj1) hD
theorem fc9_J {D : va_G} {k : Nat → ClassId} {a b : Nat → Nat} {S0 : Nat → St} {S1 : St} {H : Heap} {H1 : Heap} {A0 : Nat → Prop} {T0 : St} {j1 : Nat} (hj1 : j1 < 4) (hP : va_P D vwCl (wHo k a S0 ++ wFl k b S1) H) (hD : va_D A0 (wHo k a S0 ++ wFl k b S1)) (hk : ∀ q : Nat, q < H.size → ¬ va_A (wEn k (sh a (2 + 4 * j1)) (S0 j1)) H.size q → H1[q]? = H[q]?) (hF : ∀ q, va_A (wEn k (sh a (2 + 4 * j1)) (S0 j1)) H.size q → A0 q) (hP1 : va_P D vwCl (wEn k (sh a (2 + 4 * j1)) T0) H1) (hD1 : va_D (va_A (wEn k (sh a (2 + 4 * j1)) (S0 j1)) H.size) (wEn k (sh a (2 + 4 * j1)) T0)) : va_P D vwCl (wHo k a (va_up S0 j1 T0) ++ wFl k b S1) H1 ∧ va_D A0 (wHo k a (va_up S0 j1 T0) ++ wFl k b S1) := pf_J (fc9_p (S0 := S0) (S1 := S1) hj1) (fc9_q (S0 := S0) (S1 := S1) hj1) hP hD hk hF hP1 hD1

set_option maxRecDepth 100000 in
set_option maxHeartbeats 4000000 in
theorem fc10_p {k : Nat → ClassId} {a b : Nat → Nat} {S0 : Nat → St} {S1 : St} {j1 : Nat} (hj1 : j1 < 4) {j2 : Nat} (hj2 : j2 < 4) (hne : j1 ≠ j2) : (wHo k a S0 ++ wFl k b S1).Perm ((wEn k (sh a (2 + 4 * j1)) (S0 j1) ++ wEn k (sh a (2 + 4 * j2)) (S0 j2)) ++ ((hHo k a ++ famW (off (off (fun i => wEn k (sh a (2 + 4 * i)) (S0 i)) j2) j1) 4) ++ wFl k b S1)) := by
  refine pm_iff (fun _ x => ?_)
  have e0 := (fam2 (fun i s => wEn k (sh a (2 + 4 * i)) s) S0 hj1 hj2 hne).count_eq x
  simp only [wHo, List.count_append, List.count_nil, Nat.mul_zero, Nat.add_zero, Nat.zero_add] at e0 ⊢
  try omega
set_option maxRecDepth 100000 in
set_option maxHeartbeats 4000000 in
theorem fc10_q {k : Nat → ClassId} {a b : Nat → Nat} {S0 : Nat → St} {S1 : St} {T0 : St} {T1 : St} {j1 : Nat} (hj1 : j1 < 4) {j2 : Nat} (hj2 : j2 < 4) (hne : j1 ≠ j2) : (wHo k a (va_up (va_up S0 j1 T0) j2 T1) ++ wFl k b S1).Perm ((wEn k (sh a (2 + 4 * j1)) T0 ++ wEn k (sh a (2 + 4 * j2)) T1) ++ ((hHo k a ++ famW (off (off (fun i => wEn k (sh a (2 + 4 * i)) (S0 i)) j2) j1) 4) ++ wFl k b S1)) := by
  refine pm_iff (fun _ x => ?_)
  have e0 := (fam2u (fun i s => wEn k (sh a (2 + 4 * i)) s) S0 T0 T1 hj1 hj2 hne).count_eq x
  simp only [wHo, List.count_append, List.count_nil, Nat.mul_zero, Nat.add_zero, Nat.zero_add] at e0 ⊢
  try omega
theorem fc10_P {D : va_G} {k : Nat → ClassId} {a b : Nat → Nat} {S0 : Nat → St} {S1 : St} {H : Heap} {j1 : Nat} (hj1 : j1 < 4) {j2 : Nat} (hj2 : j2 < 4) (hne : j1 ≠ j2) (hP : va_P D vwCl (wHo k a S0 ++ wFl k b S1) H) : va_P D vwCl (wEn k (sh a (2 + 4 * j1)) (S0 j1) ++ wEn k (sh a (2 + 4 * j2)) (S0 j2)) H := pf_P (fc10_p (S0 := S0) (S1 := S1) hj1 hj2 hne) hP
theorem fc10_D {k : Nat → ClassId} {a b : Nat → Nat} {S0 : Nat → St} {S1 : St} {A : Nat → Prop} {j1 : Nat} (hj1 : j1 < 4) {j2 : Nat} (hj2 : j2 < 4) (hne : j1 ≠ j2) (hD : va_D A (wHo k a S0 ++ wFl k b S1)) : va_D A (wEn k (sh a (2 + 4 * j1)) (S0 j1) ++ wEn k (sh a (2 + 4 * j2)) (S0 j2)) := pf_D (fc10_p (S0 := S0) (S1 := S1) hj1 hj2 hne) hD
theorem fc10_J {D : va_G} {k : Nat → ClassId} {a b : Nat → Nat} {S0 : Nat → St} {S1 : St} {H : Heap} {H1 : Heap} {A0 : Nat → Prop} {T0 : St} {T1 : St} {j1 : Nat} (hj1 : j1 < 4) {j2 : Nat} (hj2 : j2 < 4) (hne : j1 ≠ j2) (hP : va_P D vwCl (wHo k a S0 ++ wFl k b S1) H) (hD : va_D A0 (wHo k a S0 ++ wFl k b S1)) (hk : ∀ q : Nat, q < H.size → ¬ va_A (wEn k (sh a (2 + 4 * j1)) (S0 j1) ++ wEn k (sh a (2 + 4 * j2)) (S0 j2)) H.size q → H1[q]? = H[q]?) (hF : ∀ q, va_A (wEn k (sh a (2 + 4 * j1)) (S0 j1) ++ wEn k (sh a (2 + 4 * j2)) (S0 j2)) H.size q → A0 q) (hP1 : va_P D vwCl (wEn k (sh a (2 + 4 * j1)) T0 ++ wEn k (sh a (2 + 4 * j2)) T1) H1) (hD1 : va_D (va_A (wEn k (sh a (2 + 4 * j1)) (S0 j1) ++ wEn k (sh a (2 + 4 * j2)) (S0 j2)) H.size) (wEn k (sh a (2 + 4 * j1)) T0 ++ wEn k (sh a (2 + 4 * j2)) T1)) : va_P D vwCl (wHo k a (va_up (va_up S0 j1 T0) j2 T1) ++ wFl k b S1) H1 ∧ va_D A0 (wHo k a (va_up (va_up S0 j1 T0) j2 T1) ++ wFl k b S1) := pf_J (fc10_p (S0 := S0) (S1 := S1) hj1 hj2 hne) (fc10_q (S0 := S0) (S1 := S1) hj1 hj2 hne) hP hD hk hF hP1 hD1

set_option maxRecDepth 100000 in
set_option maxHeartbeats 4000000 in
theorem fc11_p {k : Nat → ClassId} {a b : Nat → Nat} {S0 : St × St} {S1 : St} : (wLe k a S0 ++ wFl k b S1).Perm ((wLe k a S0) ++ (wFl k b S1)) := by
  refine pm_iff (fun _ x => ?_)
  simp only [List.count_append, List.count_nil, Nat.mul_zero, Nat.add_zero, Nat.zero_add]
  try omega
set_option maxRecDepth 100000 in
set_option maxHeartbeats 4000000 in
theorem fc11_q {k : Nat → ClassId} {a b : Nat → Nat} {S0 : St × St} {S1 : St} {T0 : St × St} : (wLe k a T0 ++ wFl k b S1).Perm ((wLe k a T0) ++ (wFl k b S1)) := by
  refine pm_iff (fun _ x => ?_)
  simp only [List.count_append, List.count_nil, Nat.mul_zero, Nat.add_zero, Nat.zero_add]
  try omega
theorem fc11_P {D : va_G} {k : Nat → ClassId} {a b : Nat → Nat} {S0 : St × St} {S1 : St} {H : Heap} (hP : va_P D vwCl (wLe k a S0 ++ wFl k b S1) H) : va_P D vwCl (wLe k a S0) H := pf_P (fc11_p (S0 := S0) (S1 := S1)) hP
theorem fc11_D {k : Nat → ClassId} {a b : Nat → Nat} {S0 : St × St} {S1 : St} {A : Nat → Prop} (hD : va_D A (wLe k a S0 ++ wFl k b S1)) : va_D A (wLe k a S0) := pf_D (fc11_p (S0 := S0) (S1 := S1)) hD
theorem fc11_J {D : va_G} {k : Nat → ClassId} {a b : Nat → Nat} {S0 : St × St} {S1 : St} {H : Heap} {H1 : Heap} {A0 : Nat → Prop} {T0 : St × St} (hP : va_P D vwCl (wLe k a S0 ++ wFl k b S1) H) (hD : va_D A0 (wLe k a S0 ++ wFl k b S1)) (hk : ∀ q : Nat, q < H.size → ¬ va_A (wLe k a S0) H.size q → H1[q]? = H[q]?) (hF : ∀ q, va_A (wLe k a S0) H.size q → A0 q) (hP1 : va_P D vwCl (wLe k a T0) H1) (hD1 : va_D (va_A (wLe k a S0) H.size) (wLe k a T0)) : va_P D vwCl (wLe k a T0 ++ wFl k b S1) H1 ∧ va_D A0 (wLe k a T0 ++ wFl k b S1) := pf_J (fc11_p (S0 := S0) (S1 := S1)) (fc11_q (S0 := S0) (S1 := S1)) hP hD hk hF hP1 hD1

set_option maxRecDepth 100000 in
set_option maxHeartbeats 4000000 in
theorem fc12_p {k : Nat → ClassId} {a b : Nat → Nat} {S0 : St × St} {S1 : St} : (wLe k a S0 ++ wFl k b S1).Perm ((wFl k (sh a 2) S0.2 ++ wFl k b S1) ++ (hLe k a S0.1)) := by
  refine pm_iff (fun _ x => ?_)
  simp only [wLe, List.count_append, List.count_nil, Nat.mul_zero, Nat.add_zero, Nat.zero_add]
  try omega
set_option maxRecDepth 100000 in
set_option maxHeartbeats 4000000 in
theorem fc12_q {k : Nat → ClassId} {a b : Nat → Nat} {S0 : St × St} {S1 : St} {T0 : St} {T1 : St} : (wLe k a (S0.1, T0) ++ wFl k b T1).Perm ((wFl k (sh a 2) T0 ++ wFl k b T1) ++ (hLe k a S0.1)) := by
  refine pm_iff (fun _ x => ?_)
  simp only [wLe, List.count_append, List.count_nil, Nat.mul_zero, Nat.add_zero, Nat.zero_add]
  try omega
theorem fc12_P {D : va_G} {k : Nat → ClassId} {a b : Nat → Nat} {S0 : St × St} {S1 : St} {H : Heap} (hP : va_P D vwCl (wLe k a S0 ++ wFl k b S1) H) : va_P D vwCl (wFl k (sh a 2) S0.2 ++ wFl k b S1) H := pf_P (fc12_p (S0 := S0) (S1 := S1)) hP
theorem fc12_D {k : Nat → ClassId} {a b : Nat → Nat} {S0 : St × St} {S1 : St} {A : Nat → Prop} (hD : va_D A (wLe k a S0 ++ wFl k b S1)) : va_D A (wFl k (sh a 2) S0.2 ++ wFl k b S1) := pf_D (fc12_p (S0 := S0) (S1 := S1)) hD
theorem fc12_J {D : va_G} {k : Nat → ClassId} {a b : Nat → Nat} {S0 : St × St} {S1 : St} {H : Heap} {H1 : Heap} {A0 : Nat → Prop} {T0 : St} {T1 : St} (hP : va_P D vwCl (wLe k a S0 ++ wFl k b S1) H) (hD : va_D A0 (wLe k a S0 ++ wFl k b S1)) (hk : ∀ q : Nat, q < H.size → ¬ va_A (wFl k (sh a 2) S0.2 ++ wFl k b S1) H.size q → H1[q]? = H[q]?) (hF : ∀ q, va_A (wFl k (sh a 2) S0.2 ++ wFl k b S1) H.size q → A0 q) (hP1 : va_P D vwCl (wFl k (sh a 2) T0 ++ wFl k b T1) H1) (hD1 : va_D (va_A (wFl k (sh a 2) S0.2 ++ wFl k b S1) H.size) (wFl k (sh a 2) T0 ++ wFl k b T1)) : va_P D vwCl (wLe k a (S0.1, T0) ++ wFl k b T1) H1 ∧ va_D A0 (wLe k a (S0.1, T0) ++ wFl k b T1) := pf_J (fc12_p (S0 := S0) (S1 := S1)) (fc12_q (S0 := S0) (S1 := S1)) hP hD hk hF hP1 hD1

set_option maxRecDepth 100000 in
set_option maxHeartbeats 4000000 in
theorem fc13_p {k : Nat → ClassId} {a b : Nat → Nat} {S0 : St × St} {S1 : St} : (wLe k a S0 ++ wFl k b S1).Perm ((wFl k b S1 ++ wFl k (sh a 2) S0.2) ++ (hLe k a S0.1)) := by
  refine pm_iff (fun _ x => ?_)
  simp only [wLe, List.count_append, List.count_nil, Nat.mul_zero, Nat.add_zero, Nat.zero_add]
  try omega
set_option maxRecDepth 100000 in
set_option maxHeartbeats 4000000 in
theorem fc13_q {k : Nat → ClassId} {a b : Nat → Nat} {S0 : St × St} {S1 : St} {T0 : St} {T1 : St} : (wLe k a (S0.1, T1) ++ wFl k b T0).Perm ((wFl k b T0 ++ wFl k (sh a 2) T1) ++ (hLe k a S0.1)) := by
  refine pm_iff (fun _ x => ?_)
  simp only [wLe, List.count_append, List.count_nil, Nat.mul_zero, Nat.add_zero, Nat.zero_add]
  try omega
theorem fc13_P {D : va_G} {k : Nat → ClassId} {a b : Nat → Nat} {S0 : St × St} {S1 : St} {H : Heap} (hP : va_P D vwCl (wLe k a S0 ++ wFl k b S1) H) : va_P D vwCl (wFl k b S1 ++ wFl k (sh a 2) S0.2) H := pf_P (fc13_p (S0 := S0) (S1 := S1)) hP
theorem fc13_D {k : Nat → ClassId} {a b : Nat → Nat} {S0 : St × St} {S1 : St} {A : Nat → Prop} (hD : va_D A (wLe k a S0 ++ wFl k b S1)) : va_D A (wFl k b S1 ++ wFl k (sh a 2) S0.2) := pf_D (fc13_p (S0 := S0) (S1 := S1)) hD
theorem fc13_J {D : va_G} {k : Nat → ClassId} {a b : Nat → Nat} {S0 : St × St} {S1 : St} {H : Heap} {H1 : Heap} {A0 : Nat → Prop} {T0 : St} {T1 : St} (hP : va_P D vwCl (wLe k a S0 ++ wFl k b S1) H) (hD : va_D A0 (wLe k a S0 ++ wFl k b S1)) (hk : ∀ q : Nat, q < H.size → ¬ va_A (wFl k b S1 ++ wFl k (sh a 2) S0.2) H.size q → H1[q]? = H[q]?) (hF : ∀ q, va_A (wFl k b S1 ++ wFl k (sh a 2) S0.2) H.size q → A0 q) (hP1 : va_P D vwCl (wFl k b T0 ++ wFl k (sh a 2) T1) H1) (hD1 : va_D (va_A (wFl k b S1 ++ wFl k (sh a 2) S0.2) H.size) (wFl k b T0 ++ wFl k (sh a 2) T1)) : va_P D vwCl (wLe k a (S0.1, T1) ++ wFl k b T0) H1 ∧ va_D A0 (wLe k a (S0.1, T1) ++ wFl k b T0) := pf_J (fc13_p (S0 := S0) (S1 := S1)) (fc13_q (S0 := S0) (S1 := S1)) hP hD hk hF hP1 hD1

set_option maxRecDepth 100000 in
set_option maxHeartbeats 4000000 in
theorem fc14_p {k : Nat → ClassId} {a : Nat → Nat} {S0 : St × St} : (wLe k a S0).Perm ((wFl k (sh a 2) S0.2) ++ (hLe k a S0.1)) := by
  refine pm_iff (fun _ x => ?_)
  simp only [wLe, List.count_append, List.count_nil, Nat.mul_zero, Nat.add_zero, Nat.zero_add]
  try omega
set_option maxRecDepth 100000 in
set_option maxHeartbeats 4000000 in
theorem fc14_q {k : Nat → ClassId} {a : Nat → Nat} {S0 : St × St} {T0 : St} : (wLe k a (S0.1, T0)).Perm ((wFl k (sh a 2) T0) ++ (hLe k a S0.1)) := by
  refine pm_iff (fun _ x => ?_)
  simp only [wLe, List.count_append, List.count_nil, Nat.mul_zero, Nat.add_zero, Nat.zero_add]
  try omega
theorem fc14_P {D : va_G} {k : Nat → ClassId} {a : Nat → Nat} {S0 : St × St} {H : Heap} (hP : va_P D vwCl (wLe k a S0) H) : va_P D vwCl (wFl k (sh a 2) S0.2) H := pf_P (fc14_p (S0 := S0)) hP
theorem fc14_D {k : Nat → ClassId} {a : Nat → Nat} {S0 : St × St} {A : Nat → Prop} (hD : va_D A (wLe k a S0)) : va_D A (wFl k (sh a 2) S0.2) := pf_D (fc14_p (S0 := S0)) hD
theorem fc14_J {D : va_G} {k : Nat → ClassId} {a : Nat → Nat} {S0 : St × St} {H : Heap} {H1 : Heap} {A0 : Nat → Prop} {T0 : St} (hP : va_P D vwCl (wLe k a S0) H) (hD : va_D A0 (wLe k a S0)) (hk : ∀ q : Nat, q < H.size → ¬ va_A (wFl k (sh a 2) S0.2) H.size q → H1[q]? = H[q]?) (hF : ∀ q, va_A (wFl k (sh a 2) S0.2) H.size q → A0 q) (hP1 : va_P D vwCl (wFl k (sh a 2) T0) H1) (hD1 : va_D (va_A (wFl k (sh a 2) S0.2) H.size) (wFl k (sh a 2) T0)) : va_P D vwCl (wLe k a (S0.1, T0)) H1 ∧ va_D A0 (wLe k a (S0.1, T0)) := pf_J (fc14_p (S0 := S0)) (fc14_q (S0 := S0)) hP hD hk hF hP1 hD1

set_option maxRecDepth 100000 in
set_option maxHeartbeats 4000000 in
theorem fc15_p {k : Nat → ClassId} {a b : Nat → Nat} {S0 : St × (Nat → St)} {S1 : St} : (wWi k a S0 ++ wFl k b S1).Perm ((wFl k b S1) ++ (wWi k a S0)) := by
  refine pm_iff (fun _ x => ?_)
  simp only [List.count_append, List.count_nil, Nat.mul_zero, Nat.add_zero, Nat.zero_add]
  try omega
set_option maxRecDepth 100000 in
set_option maxHeartbeats 4000000 in
theorem fc15_q {k : Nat → ClassId} {a b : Nat → Nat} {S0 : St × (Nat → St)} {S1 : St} {T0 : St} : (wWi k a S0 ++ wFl k b T0).Perm ((wFl k b T0) ++ (wWi k a S0)) := by
  refine pm_iff (fun _ x => ?_)
  simp only [List.count_append, List.count_nil, Nat.mul_zero, Nat.add_zero, Nat.zero_add]
  try omega
theorem fc15_P {D : va_G} {k : Nat → ClassId} {a b : Nat → Nat} {S0 : St × (Nat → St)} {S1 : St} {H : Heap} (hP : va_P D vwCl (wWi k a S0 ++ wFl k b S1) H) : va_P D vwCl (wFl k b S1) H := pf_P (fc15_p (S0 := S0) (S1 := S1)) hP
theorem fc15_D {k : Nat → ClassId} {a b : Nat → Nat} {S0 : St × (Nat → St)} {S1 : St} {A : Nat → Prop} (hD : va_D A (wWi k a S0 ++ wFl k b S1)) : va_D A (wFl k b S1) := pf_D (fc15_p (S0 := S0) (S1 := S1)) hD
theorem fc15_J {D : va_G} {k : Nat → ClassId} {a b : Nat → Nat} {S0 : St × (Nat → St)} {S1 : St} {H : Heap} {H1 : Heap} {A0 : Nat → Prop} {T0 : St} (hP : va_P D vwCl (wWi k a S0 ++ wFl k b S1) H) (hD : va_D A0 (wWi k a S0 ++ wFl k b S1)) (hk : ∀ q : Nat, q < H.size → ¬ va_A (wFl k b S1) H.size q → H1[q]? = H[q]?) (hF : ∀ q, va_A (wFl k b S1) H.size q → A0 q) (hP1 : va_P D vwCl (wFl k b T0) H1) (hD1 : va_D (va_A (wFl k b S1) H.size) (wFl k b T0)) : va_P D vwCl (wWi k a S0 ++ wFl k b T0) H1 ∧ va_D A0 (wWi k a S0 ++ wFl k b T0) := pf_J (fc15_p (S0 := S0) (S1 := S1)) (fc15_q (S0 := S0) (S1 := S1)) hP hD hk hF hP1 hD1

set_option maxRecDepth 100000 in
set_option maxHeartbeats 4000000 in
theorem fc16_p {k : Nat → ClassId} {a b : Nat → Nat} {S0 : St × (Nat → St)} {S1 : St} : (wWi k a S0 ++ wFl k b S1).Perm ((wFl k (sh a 2) (S0.2 0) ++ wFl k b S1) ++ ((hWi k a S0.1 ++ famW (off (fun i => wFl k (sh a (2 + 5 * i)) (S0.2 i)) 0) 3))) := by
  refine pm_iff (fun _ x => ?_)
  have e0 := (fam1 (fun i s => wFl k (sh a (2 + 5 * i)) s) S0.2 (show 0 < 3 by decide)).count_eq x
  simp only [wWi, List.count_append, List.count_nil, Nat.mul_zero, Nat.add_zero, Nat.zero_add] at e0 ⊢
  try omega
set_option maxRecDepth 100000 in
set_option maxHeartbeats 4000000 in
theorem fc16_q {k : Nat → ClassId} {a b : Nat → Nat} {S0 : St × (Nat → St)} {S1 : St} {T0 : St} {T1 : St} : (wWi k a (S0.1, va_up S0.2 0 T0) ++ wFl k b T1).Perm ((wFl k (sh a 2) T0 ++ wFl k b T1) ++ ((hWi k a S0.1 ++ famW (off (fun i => wFl k (sh a (2 + 5 * i)) (S0.2 i)) 0) 3))) := by
  refine pm_iff (fun _ x => ?_)
  have e0 := (fam1u (fun i s => wFl k (sh a (2 + 5 * i)) s) S0.2 T0 (show 0 < 3 by decide)).count_eq x
  simp only [wWi, List.count_append, List.count_nil, Nat.mul_zero, Nat.add_zero, Nat.zero_add] at e0 ⊢
  try omega
theorem fc16_P {D : va_G} {k : Nat → ClassId} {a b : Nat → Nat} {S0 : St × (Nat → St)} {S1 : St} {H : Heap} (hP : va_P D vwCl (wWi k a S0 ++ wFl k b S1) H) : va_P D vwCl (wFl k (sh a 2) (S0.2 0) ++ wFl k b S1) H := pf_P (fc16_p (S0 := S0) (S1 := S1)) hP
theorem fc16_D {k : Nat → ClassId} {a b : Nat → Nat} {S0 : St × (Nat → St)} {S1 : St} {A : Nat → Prop} (hD : va_D A (wWi k a S0 ++ wFl k b S1)) : va_D A (wFl k (sh a 2) (S0.2 0) ++ wFl k b S1) := pf_D (fc16_p (S0 := S0) (S1 := S1)) hD
theorem fc16_J {D : va_G} {k : Nat → ClassId} {a b : Nat → Nat} {S0 : St × (Nat → St)} {S1 : St} {H : Heap} {H1 : Heap} {A0 : Nat → Prop} {T0 : St} {T1 : St} (hP : va_P D vwCl (wWi k a S0 ++ wFl k b S1) H) (hD : va_D A0 (wWi k a S0 ++ wFl k b S1)) (hk : ∀ q : Nat, q < H.size → ¬ va_A (wFl k (sh a 2) (S0.2 0) ++ wFl k b S1) H.size q → H1[q]? = H[q]?) (hF : ∀ q, va_A (wFl k (sh a 2) (S0.2 0) ++ wFl k b S1) H.size q → A0 q) (hP1 : va_P D vwCl (wFl k (sh a 2) T0 ++ wFl k b T1) H1) (hD1 : va_D (va_A (wFl k (sh a 2) (S0.2 0) ++ wFl k b S1) H.size) (wFl k (sh a 2) T0 ++ wFl k b T1)) : va_P D vwCl (wWi k a (S0.1, va_up S0.2 0 T0) ++ wFl k b T1) H1 ∧ va_D A0 (wWi k a (S0.1, va_up S0.2 0 T0) ++ wFl k b T1) := pf_J (fc16_p (S0 := S0) (S1 := S1)) (fc16_q (S0 := S0) (S1 := S1)) hP hD hk hF hP1 hD1

set_option maxRecDepth 100000 in
set_option maxHeartbeats 4000000 in
theorem fc17_p {k : Nat → ClassId} {a : Nat → Nat} {S0 : St × (Nat → St)} {j1 : Nat} (hj1 : j1 < 3) : (wWi k a S0).Perm ((wFl k (sh a (2 + 5 * j1)) (S0.2 j1)) ++ ((hWi k a S0.1 ++ famW (off (fun i => wFl k (sh a (2 + 5 * i)) (S0.2 i)) j1) 3))) := by
  refine pm_iff (fun _ x => ?_)
  have e0 := (fam1 (fun i s => wFl k (sh a (2 + 5 * i)) s) S0.2 hj1).count_eq x
  simp only [wWi, List.count_append, List.count_nil, Nat.mul_zero, Nat.add_zero, Nat.zero_add] at e0 ⊢
  try omega
set_option maxRecDepth 100000 in
set_option maxHeartbeats 4000000 in
theorem fc17_q {k : Nat → ClassId} {a : Nat → Nat} {S0 : St × (Nat → St)} {T0 : St} {j1 : Nat} (hj1 : j1 < 3) : (wWi k a (S0.1, va_up S0.2 j1 T0)).Perm ((wFl k (sh a (2 + 5 * j1)) T0) ++ ((hWi k a S0.1 ++ famW (off (fun i => wFl k (sh a (2 + 5 * i)) (S0.2 i)) j1) 3))) := by
  refine pm_iff (fun _ x => ?_)
  have e0 := (fam1u (fun i s => wFl k (sh a (2 + 5 * i)) s) S0.2 T0 hj1).count_eq x
  simp only [wWi, List.count_append, List.count_nil, Nat.mul_zero, Nat.add_zero, Nat.zero_add] at e0 ⊢
  try omega
theorem fc17_P {D : va_G} {k : Nat → ClassId} {a : Nat → Nat} {S0 : St × (Nat → St)} {H : Heap} {j1 : Nat} (hj1 : j1 < 3) (hP : va_P D vwCl (wWi k a S0) H) : va_P D vwCl (wFl k (sh a (2 + 5 * j1)) (S0.2 j1)) H := pf_P (fc17_p (S0 := S0) hj1) hP
theorem fc17_D {k : Nat → ClassId} {a : Nat → Nat} {S0 : St × (Nat → St)} {A : Nat → Prop} {j1 : Nat} (hj1 : j1 < 3) (hD : va_D A (wWi k a S0)) : va_D A (wFl k (sh a (2 + 5 * j1)) (S0.2 j1)) := pf_D (fc17_p (S0 := S0) hj1) hD
theorem fc17_J {D : va_G} {k : Nat → ClassId} {a : Nat → Nat} {S0 : St × (Nat → St)} {H : Heap} {H1 : Heap} {A0 : Nat → Prop} {T0 : St} {j1 : Nat} (hj1 : j1 < 3) (hP : va_P D vwCl (wWi k a S0) H) (hD : va_D A0 (wWi k a S0)) (hk : ∀ q : Nat, q < H.size → ¬ va_A (wFl k (sh a (2 + 5 * j1)) (S0.2 j1)) H.size q → H1[q]? = H[q]?) (hF : ∀ q, va_A (wFl k (sh a (2 + 5 * j1)) (S0.2 j1)) H.size q → A0 q) (hP1 : va_P D vwCl (wFl k (sh a (2 + 5 * j1)) T0) H1) (hD1 : va_D (va_A (wFl k (sh a (2 + 5 * j1)) (S0.2 j1)) H.size) (wFl k (sh a (2 + 5 * j1)) T0)) : va_P D vwCl (wWi k a (S0.1, va_up S0.2 j1 T0)) H1 ∧ va_D A0 (wWi k a (S0.1, va_up S0.2 j1 T0)) := pf_J (fc17_p (S0 := S0) hj1) (fc17_q (S0 := S0) hj1) hP hD hk hF hP1 hD1

set_option maxRecDepth 100000 in
set_option maxHeartbeats 4000000 in
theorem fc18_p {k : Nat → ClassId} {a : Nat → Nat} {S0 : St × (Nat → St)} {j1 : Nat} (hj1 : j1 < 3) {j2 : Nat} (hj2 : j2 < 3) (hne : j1 ≠ j2) : (wWi k a S0).Perm ((wFl k (sh a (2 + 5 * j1)) (S0.2 j1) ++ wFl k (sh a (2 + 5 * j2)) (S0.2 j2)) ++ ((hWi k a S0.1 ++ famW (off (off (fun i => wFl k (sh a (2 + 5 * i)) (S0.2 i)) j2) j1) 3))) := by
  refine pm_iff (fun _ x => ?_)
  have e0 := (fam2 (fun i s => wFl k (sh a (2 + 5 * i)) s) S0.2 hj1 hj2 hne).count_eq x
  simp only [wWi, List.count_append, List.count_nil, Nat.mul_zero, Nat.add_zero, Nat.zero_add] at e0 ⊢
  try omega
set_option maxRecDepth 100000 in
set_option maxHeartbeats 4000000 in
theorem fc18_q {k : Nat → ClassId} {a : Nat → Nat} {S0 : St × (Nat → St)} {T0 : St} {T1 : St} {j1 : Nat} (hj1 : j1 < 3) {j2 : Nat} (hj2 : j2 < 3) (hne : j1 ≠ j2) : (wWi k a ((S0.1, va_up S0.2 j1 T0).1, va_up (S0.1, va_up S0.2 j1 T0).2 j2 T1)).Perm ((wFl k (sh a (2 + 5 * j1)) T0 ++ wFl k (sh a (2 + 5 * j2)) T1) ++ ((hWi k a S0.1 ++ famW (off (off (fun i => wFl k (sh a (2 + 5 * i)) (S0.2 i)) j2) j1) 3))) := by
  refine pm_iff (fun _ x => ?_)
  have e0 := (fam2u (fun i s => wFl k (sh a (2 + 5 * i)) s) S0.2 T0 T1 hj1 hj2 hne).count_eq x
  simp only [wWi, List.count_append, List.count_nil, Nat.mul_zero, Nat.add_zero, Nat.zero_add] at e0 ⊢
  try omega
theorem fc18_P {D : va_G} {k : Nat → ClassId} {a : Nat → Nat} {S0 : St × (Nat → St)} {H : Heap} {j1 : Nat} (hj1 : j1 < 3) {j2 : Nat} (hj2 : j2 < 3) (hne : j1 ≠ j2) (hP : va_P D vwCl (wWi k a S0) H) : va_P D vwCl (wFl k (sh a (2 + 5 * j1)) (S0.2 j1) ++ wFl k (sh a (2 + 5 * j2)) (S0.2 j2)) H := pf_P (fc18_p (S0 := S0) hj1 hj2 hne) hP
theorem fc18_D {k : Nat → ClassId} {a : Nat → Nat} {S0 : St × (Nat → St)} {A : Nat → Prop} {j1 : Nat} (hj1 : j1 < 3) {j2 : Nat} (hj2 : j2 < 3) (hne : j1 ≠ j2) (hD : va_D A (wWi k a S0)) : va_D A (wFl k (sh a (2 + 5 * j1)) (S0.2 j1) ++ wFl k (sh a (2 + 5 * j2)) (S0.2 j2)) := pf_D (fc18_p (S0 := S0) hj1 hj2 hne) hD
theorem fc18_J {D : va_G} {k : Nat → ClassId} {a : Nat → Nat} {S0 : St × (Nat → St)} {H : Heap} {H1 : Heap} {A0 : Nat → Prop} {T0 : St} {T1 : St} {j1 : Nat} (hj1 : j1 < 3) {j2 : Nat} (hj2 : j2 < 3) (hne : j1 ≠ j2) (hP : va_P D vwCl (wWi k a S0) H) (hD : va_D A0 (wWi k a S0)) (hk : ∀ q : Nat, q < H.size → ¬ va_A (wFl k (sh a (2 + 5 * j1)) (S0.2 j1) ++ wFl k (sh a (2 + 5 * j2)) (S0.2 j2)) H.size q → H1[q]? = H[q]?) (hF : ∀ q, va_A (wFl k (sh a (2 + 5 * j1)) (S0.2 j1) ++ wFl k (sh a (2 + 5 * j2)) (S0.2 j2)) H.size q → A0 q) (hP1 : va_P D vwCl (wFl k (sh a (2 + 5 * j1)) T0 ++ wFl k (sh a (2 + 5 * j2)) T1) H1) (hD1 : va_D (va_A (wFl k (sh a (2 + 5 * j1)) (S0.2 j1) ++ wFl k (sh a (2 + 5 * j2)) (S0.2 j2)) H.size) (wFl k (sh a (2 + 5 * j1)) T0 ++ wFl k (sh a (2 + 5 * j2)) T1)) : va_P D vwCl (wWi k a ((S0.1, va_up S0.2 j1 T0).1, va_up (S0.1, va_up S0.2 j1 T0).2 j2 T1)) H1 ∧ va_D A0 (wWi k a ((S0.1, va_up S0.2 j1 T0).1, va_up (S0.1, va_up S0.2 j1 T0).2 j2 T1)) := pf_J (fc18_p (S0 := S0) hj1 hj2 hne) (fc18_q (S0 := S0) hj1 hj2 hne) hP hD hk hF hP1 hD1

set_option maxRecDepth 100000 in
set_option maxHeartbeats 4000000 in
theorem fc19_p {k : Nat → ClassId} {a b : Nat → Nat} {S0 : St × (Nat → St)} {S1 : St} : (wWi k a S0 ++ wFl k b S1).Perm ((wWi k a S0) ++ (wFl k b S1)) := by
  refine pm_iff (fun _ x => ?_)
  simp only [List.count_append, List.count_nil, Nat.mul_zero, Nat.add_zero, Nat.zero_add]
  try omega
set_option maxRecDepth 100000 in
set_option maxHeartbeats 4000000 in
theorem fc19_q {k : Nat → ClassId} {a b : Nat → Nat} {S0 : St × (Nat → St)} {S1 : St} {T0 : St × (Nat → St)} : (wWi k a T0 ++ wFl k b S1).Perm ((wWi k a T0) ++ (wFl k b S1)) := by
  refine pm_iff (fun _ x => ?_)
  simp only [List.count_append, List.count_nil, Nat.mul_zero, Nat.add_zero, Nat.zero_add]
  try omega
theorem fc19_P {D : va_G} {k : Nat → ClassId} {a b : Nat → Nat} {S0 : St × (Nat → St)} {S1 : St} {H : Heap} (hP : va_P D vwCl (wWi k a S0 ++ wFl k b S1) H) : va_P D vwCl (wWi k a S0) H := pf_P (fc19_p (S0 := S0) (S1 := S1)) hP
theorem fc19_D {k : Nat → ClassId} {a b : Nat → Nat} {S0 : St × (Nat → St)} {S1 : St} {A : Nat → Prop} (hD : va_D A (wWi k a S0 ++ wFl k b S1)) : va_D A (wWi k a S0) := pf_D (fc19_p (S0 := S0) (S1 := S1)) hD
theorem fc19_J {D : va_G} {k : Nat → ClassId} {a b : Nat → Nat} {S0 : St × (Nat → St)} {S1 : St} {H : Heap} {H1 : Heap} {A0 : Nat → Prop} {T0 : St × (Nat → St)} (hP : va_P D vwCl (wWi k a S0 ++ wFl k b S1) H) (hD : va_D A0 (wWi k a S0 ++ wFl k b S1)) (hk : ∀ q : Nat, q < H.size → ¬ va_A (wWi k a S0) H.size q → H1[q]? = H[q]?) (hF : ∀ q, va_A (wWi k a S0) H.size q → A0 q) (hP1 : va_P D vwCl (wWi k a T0) H1) (hD1 : va_D (va_A (wWi k a S0) H.size) (wWi k a T0)) : va_P D vwCl (wWi k a T0 ++ wFl k b S1) H1 ∧ va_D A0 (wWi k a T0 ++ wFl k b S1) := pf_J (fc19_p (S0 := S0) (S1 := S1)) (fc19_q (S0 := S0) (S1 := S1)) hP hD hk hF hP1 hD1

set_option maxRecDepth 100000 in
set_option maxHeartbeats 4000000 in
theorem fc20_p {k : Nat → ClassId} {a : Nat → Nat} {S0 : CS} : (wMa k a S0).Perm ((wLe k (sh a 12) S0.2.2.2.1) ++ (hMa k a S0.1 ++ wFl k (sh a 2) S0.2.1 ++ wFl k (sh a 7) S0.2.2.1 ++ wHo k (sh a 19) S0.2.2.2.2.1 ++ wWi k (sh a 37) S0.2.2.2.2.2.1 ++ wEv k (sh a 54) S0.2.2.2.2.2.2)) := by
  refine pm_iff (fun _ x => ?_)
  simp only [wMa, xl, List.count_append, List.count_nil, Nat.mul_zero, Nat.add_zero, Nat.zero_add]
  try omega
set_option maxRecDepth 100000 in
set_option maxHeartbeats 4000000 in
theorem fc20_q {k : Nat → ClassId} {a : Nat → Nat} {S0 : CS} {T0 : St × St} : (wMa k a (xl S0 T0)).Perm ((wLe k (sh a 12) T0) ++ (hMa k a S0.1 ++ wFl k (sh a 2) S0.2.1 ++ wFl k (sh a 7) S0.2.2.1 ++ wHo k (sh a 19) S0.2.2.2.2.1 ++ wWi k (sh a 37) S0.2.2.2.2.2.1 ++ wEv k (sh a 54) S0.2.2.2.2.2.2)) := by
  refine pm_iff (fun _ x => ?_)
  simp only [wMa, xl, List.count_append, List.count_nil, Nat.mul_zero, Nat.add_zero, Nat.zero_add]
  try omega
theorem fc20_P {D : va_G} {k : Nat → ClassId} {a : Nat → Nat} {S0 : CS} {H : Heap} (hP : va_P D vwCl (wMa k a S0) H) : va_P D vwCl (wLe k (sh a 12) S0.2.2.2.1) H := pf_P (fc20_p (S0 := S0)) hP
theorem fc20_D {k : Nat → ClassId} {a : Nat → Nat} {S0 : CS} {A : Nat → Prop} (hD : va_D A (wMa k a S0)) : va_D A (wLe k (sh a 12) S0.2.2.2.1) := pf_D (fc20_p (S0 := S0)) hD
theorem fc20_J {D : va_G} {k : Nat → ClassId} {a : Nat → Nat} {S0 : CS} {H : Heap} {H1 : Heap} {A0 : Nat → Prop} {T0 : St × St} (hP : va_P D vwCl (wMa k a S0) H) (hD : va_D A0 (wMa k a S0)) (hk : ∀ q : Nat, q < H.size → ¬ va_A (wLe k (sh a 12) S0.2.2.2.1) H.size q → H1[q]? = H[q]?) (hF : ∀ q, va_A (wLe k (sh a 12) S0.2.2.2.1) H.size q → A0 q) (hP1 : va_P D vwCl (wLe k (sh a 12) T0) H1) (hD1 : va_D (va_A (wLe k (sh a 12) S0.2.2.2.1) H.size) (wLe k (sh a 12) T0)) : va_P D vwCl (wMa k a (xl S0 T0)) H1 ∧ va_D A0 (wMa k a (xl S0 T0)) := pf_J (fc20_p (S0 := S0)) (fc20_q (S0 := S0)) hP hD hk hF hP1 hD1

set_option maxRecDepth 100000 in
set_option maxHeartbeats 4000000 in
theorem fc21_p {k : Nat → ClassId} {a : Nat → Nat} {S0 : CS} : (wMa k a S0).Perm ((wLe k (sh a 12) S0.2.2.2.1 ++ wFl k (sh a 2) S0.2.1) ++ (hMa k a S0.1 ++ wFl k (sh a 7) S0.2.2.1 ++ wHo k (sh a 19) S0.2.2.2.2.1 ++ wWi k (sh a 37) S0.2.2.2.2.2.1 ++ wEv k (sh a 54) S0.2.2.2.2.2.2)) := by
  refine pm_iff (fun _ x => ?_)
  simp only [wMa, xf, xl, List.count_append, List.count_nil, Nat.mul_zero, Nat.add_zero, Nat.zero_add]
  try omega
set_option maxRecDepth 100000 in
set_option maxHeartbeats 4000000 in
theorem fc21_q {k : Nat → ClassId} {a : Nat → Nat} {S0 : CS} {T0 : St × St} {T1 : St} : (wMa k a (xf (xl S0 T0) T1)).Perm ((wLe k (sh a 12) T0 ++ wFl k (sh a 2) T1) ++ (hMa k a S0.1 ++ wFl k (sh a 7) S0.2.2.1 ++ wHo k (sh a 19) S0.2.2.2.2.1 ++ wWi k (sh a 37) S0.2.2.2.2.2.1 ++ wEv k (sh a 54) S0.2.2.2.2.2.2)) := by
  refine pm_iff (fun _ x => ?_)
  simp only [wMa, xf, xl, List.count_append, List.count_nil, Nat.mul_zero, Nat.add_zero, Nat.zero_add]
  try omega
theorem fc21_P {D : va_G} {k : Nat → ClassId} {a : Nat → Nat} {S0 : CS} {H : Heap} (hP : va_P D vwCl (wMa k a S0) H) : va_P D vwCl (wLe k (sh a 12) S0.2.2.2.1 ++ wFl k (sh a 2) S0.2.1) H := pf_P (fc21_p (S0 := S0)) hP
theorem fc21_D {k : Nat → ClassId} {a : Nat → Nat} {S0 : CS} {A : Nat → Prop} (hD : va_D A (wMa k a S0)) : va_D A (wLe k (sh a 12) S0.2.2.2.1 ++ wFl k (sh a 2) S0.2.1) := pf_D (fc21_p (S0 := S0)) hD
theorem fc21_J {D : va_G} {k : Nat → ClassId} {a : Nat → Nat} {S0 : CS} {H : Heap} {H1 : Heap} {A0 : Nat → Prop} {T0 : St × St} {T1 : St} (hP : va_P D vwCl (wMa k a S0) H) (hD : va_D A0 (wMa k a S0)) (hk : ∀ q : Nat, q < H.size → ¬ va_A (wLe k (sh a 12) S0.2.2.2.1 ++ wFl k (sh a 2) S0.2.1) H.size q → H1[q]? = H[q]?) (hF : ∀ q, va_A (wLe k (sh a 12) S0.2.2.2.1 ++ wFl k (sh a 2) S0.2.1) H.size q → A0 q) (hP1 : va_P D vwCl (wLe k (sh a 12) T0 ++ wFl k (sh a 2) T1) H1) (hD1 : va_D (va_A (wLe k (sh a 12) S0.2.2.2.1 ++ wFl k (sh a 2) S0.2.1) H.size) (wLe k (sh a 12) T0 ++ wFl k (sh a 2) T1)) : va_P D vwCl (wMa k a (xf (xl S0 T0) T1)) H1 ∧ va_D A0 (wMa k a (xf (xl S0 T0) T1)) := pf_J (fc21_p (S0 := S0)) (fc21_q (S0 := S0)) hP hD hk hF hP1 hD1

set_option maxRecDepth 100000 in
set_option maxHeartbeats 4000000 in
theorem fc22_p {k : Nat → ClassId} {a : Nat → Nat} {S0 : CS} : (wMa k a S0).Perm ((wFl k (sh a 2) S0.2.1) ++ (hMa k a S0.1 ++ wFl k (sh a 7) S0.2.2.1 ++ wLe k (sh a 12) S0.2.2.2.1 ++ wHo k (sh a 19) S0.2.2.2.2.1 ++ wWi k (sh a 37) S0.2.2.2.2.2.1 ++ wEv k (sh a 54) S0.2.2.2.2.2.2)) := by
  refine pm_iff (fun _ x => ?_)
  simp only [wMa, xf, List.count_append, List.count_nil, Nat.mul_zero, Nat.add_zero, Nat.zero_add]
  try omega
set_option maxRecDepth 100000 in
set_option maxHeartbeats 4000000 in
theorem fc22_q {k : Nat → ClassId} {a : Nat → Nat} {S0 : CS} {T0 : St} : (wMa k a (xf S0 T0)).Perm ((wFl k (sh a 2) T0) ++ (hMa k a S0.1 ++ wFl k (sh a 7) S0.2.2.1 ++ wLe k (sh a 12) S0.2.2.2.1 ++ wHo k (sh a 19) S0.2.2.2.2.1 ++ wWi k (sh a 37) S0.2.2.2.2.2.1 ++ wEv k (sh a 54) S0.2.2.2.2.2.2)) := by
  refine pm_iff (fun _ x => ?_)
  simp only [wMa, xf, List.count_append, List.count_nil, Nat.mul_zero, Nat.add_zero, Nat.zero_add]
  try omega
theorem fc22_P {D : va_G} {k : Nat → ClassId} {a : Nat → Nat} {S0 : CS} {H : Heap} (hP : va_P D vwCl (wMa k a S0) H) : va_P D vwCl (wFl k (sh a 2) S0.2.1) H := pf_P (fc22_p (S0 := S0)) hP
theorem fc22_D {k : Nat → ClassId} {a : Nat → Nat} {S0 : CS} {A : Nat → Prop} (hD : va_D A (wMa k a S0)) : va_D A (wFl k (sh a 2) S0.2.1) := pf_D (fc22_p (S0 := S0)) hD
theorem fc22_J {D : va_G} {k : Nat → ClassId} {a : Nat → Nat} {S0 : CS} {H : Heap} {H1 : Heap} {A0 : Nat → Prop} {T0 : St} (hP : va_P D vwCl (wMa k a S0) H) (hD : va_D A0 (wMa k a S0)) (hk : ∀ q : Nat, q < H.size → ¬ va_A (wFl k (sh a 2) S0.2.1) H.size q → H1[q]? = H[q]?) (hF : ∀ q, va_A (wFl k (sh a 2) S0.2.1) H.size q → A0 q) (hP1 : va_P D vwCl (wFl k (sh a 2) T0) H1) (hD1 : va_D (va_A (wFl k (sh a 2) S0.2.1) H.size) (wFl k (sh a 2) T0)) : va_P D vwCl (wMa k a (xf S0 T0)) H1 ∧ va_D A0 (wMa k a (xf S0 T0)) := pf_J (fc22_p (S0 := S0)) (fc22_q (S0 := S0)) hP hD hk hF hP1 hD1

set_option maxRecDepth 100000 in
set_option maxHeartbeats 4000000 in
theorem fc23_p {k : Nat → ClassId} {a : Nat → Nat} {S0 : CS} : (wMa k a S0).Perm ((wHo k (sh a 19) S0.2.2.2.2.1 ++ wFl k (sh a 2) S0.2.1) ++ (hMa k a S0.1 ++ wFl k (sh a 7) S0.2.2.1 ++ wLe k (sh a 12) S0.2.2.2.1 ++ wWi k (sh a 37) S0.2.2.2.2.2.1 ++ wEv k (sh a 54) S0.2.2.2.2.2.2)) := by
  refine pm_iff (fun _ x => ?_)
  simp only [wMa, xf, xh, List.count_append, List.count_nil, Nat.mul_zero, Nat.add_zero, Nat.zero_add]
  try omega
set_option maxRecDepth 100000 in
set_option maxHeartbeats 4000000 in
theorem fc23_q {k : Nat → ClassId} {a : Nat → Nat} {S0 : CS} {T0 : Nat → St} {T1 : St} : (wMa k a (xf (xh S0 T0) T1)).Perm ((wHo k (sh a 19) T0 ++ wFl k (sh a 2) T1) ++ (hMa k a S0.1 ++ wFl k (sh a 7) S0.2.2.1 ++ wLe k (sh a 12) S0.2.2.2.1 ++ wWi k (sh a 37) S0.2.2.2.2.2.1 ++ wEv k (sh a 54) S0.2.2.2.2.2.2)) := by
  refine pm_iff (fun _ x => ?_)
  simp only [wMa, xf, xh, List.count_append, List.count_nil, Nat.mul_zero, Nat.add_zero, Nat.zero_add]
  try omega
theorem fc23_P {D : va_G} {k : Nat → ClassId} {a : Nat → Nat} {S0 : CS} {H : Heap} (hP : va_P D vwCl (wMa k a S0) H) : va_P D vwCl (wHo k (sh a 19) S0.2.2.2.2.1 ++ wFl k (sh a 2) S0.2.1) H := pf_P (fc23_p (S0 := S0)) hP
theorem fc23_D {k : Nat → ClassId} {a : Nat → Nat} {S0 : CS} {A : Nat → Prop} (hD : va_D A (wMa k a S0)) : va_D A (wHo k (sh a 19) S0.2.2.2.2.1 ++ wFl k (sh a 2) S0.2.1) := pf_D (fc23_p (S0 := S0)) hD
theorem fc23_J {D : va_G} {k : Nat → ClassId} {a : Nat → Nat} {S0 : CS} {H : Heap} {H1 : Heap} {A0 : Nat → Prop} {T0 : Nat → St} {T1 : St} (hP : va_P D vwCl (wMa k a S0) H) (hD : va_D A0 (wMa k a S0)) (hk : ∀ q : Nat, q < H.size → ¬ va_A (wHo k (sh a 19) S0.2.2.2.2.1 ++ wFl k (sh a 2) S0.2.1) H.size q → H1[q]? = H[q]?) (hF : ∀ q, va_A (wHo k (sh a 19) S0.2.2.2.2.1 ++ wFl k (sh a 2) S0.2.1) H.size q → A0 q) (hP1 : va_P D vwCl (wHo k (sh a 19) T0 ++ wFl k (sh a 2) T1) H1) (hD1 : va_D (va_A (wHo k (sh a 19) S0.2.2.2.2.1 ++ wFl k (sh a 2) S0.2.1) H.size) (wHo k (sh a 19) T0 ++ wFl k (sh a 2) T1)) : va_P D vwCl (wMa k a (xf (xh S0 T0) T1)) H1 ∧ va_D A0 (wMa k a (xf (xh S0 T0) T1)) := pf_J (fc23_p (S0 := S0)) (fc23_q (S0 := S0)) hP hD hk hF hP1 hD1

set_option maxRecDepth 100000 in
set_option maxHeartbeats 4000000 in
theorem fc24_p {k : Nat → ClassId} {a : Nat → Nat} {S0 : CS} : (wMa k a S0).Perm ((wWi k (sh a 37) S0.2.2.2.2.2.1 ++ wFl k (sh a 2) S0.2.1) ++ (hMa k a S0.1 ++ wFl k (sh a 7) S0.2.2.1 ++ wLe k (sh a 12) S0.2.2.2.1 ++ wHo k (sh a 19) S0.2.2.2.2.1 ++ wEv k (sh a 54) S0.2.2.2.2.2.2)) := by
  refine pm_iff (fun _ x => ?_)
  simp only [wMa, xf, xw, List.count_append, List.count_nil, Nat.mul_zero, Nat.add_zero, Nat.zero_add]
  try omega
set_option maxRecDepth 100000 in
set_option maxHeartbeats 4000000 in
theorem fc24_q {k : Nat → ClassId} {a : Nat → Nat} {S0 : CS} {T0 : St × (Nat → St)} {T1 : St} : (wMa k a (xf (xw S0 T0) T1)).Perm ((wWi k (sh a 37) T0 ++ wFl k (sh a 2) T1) ++ (hMa k a S0.1 ++ wFl k (sh a 7) S0.2.2.1 ++ wLe k (sh a 12) S0.2.2.2.1 ++ wHo k (sh a 19) S0.2.2.2.2.1 ++ wEv k (sh a 54) S0.2.2.2.2.2.2)) := by
  refine pm_iff (fun _ x => ?_)
  simp only [wMa, xf, xw, List.count_append, List.count_nil, Nat.mul_zero, Nat.add_zero, Nat.zero_add]
  try omega
theorem fc24_P {D : va_G} {k : Nat → ClassId} {a : Nat → Nat} {S0 : CS} {H : Heap} (hP : va_P D vwCl (wMa k a S0) H) : va_P D vwCl (wWi k (sh a 37) S0.2.2.2.2.2.1 ++ wFl k (sh a 2) S0.2.1) H := pf_P (fc24_p (S0 := S0)) hP
theorem fc24_D {k : Nat → ClassId} {a : Nat → Nat} {S0 : CS} {A : Nat → Prop} (hD : va_D A (wMa k a S0)) : va_D A (wWi k (sh a 37) S0.2.2.2.2.2.1 ++ wFl k (sh a 2) S0.2.1) := pf_D (fc24_p (S0 := S0)) hD
theorem fc24_J {D : va_G} {k : Nat → ClassId} {a : Nat → Nat} {S0 : CS} {H : Heap} {H1 : Heap} {A0 : Nat → Prop} {T0 : St × (Nat → St)} {T1 : St} (hP : va_P D vwCl (wMa k a S0) H) (hD : va_D A0 (wMa k a S0)) (hk : ∀ q : Nat, q < H.size → ¬ va_A (wWi k (sh a 37) S0.2.2.2.2.2.1 ++ wFl k (sh a 2) S0.2.1) H.size q → H1[q]? = H[q]?) (hF : ∀ q, va_A (wWi k (sh a 37) S0.2.2.2.2.2.1 ++ wFl k (sh a 2) S0.2.1) H.size q → A0 q) (hP1 : va_P D vwCl (wWi k (sh a 37) T0 ++ wFl k (sh a 2) T1) H1) (hD1 : va_D (va_A (wWi k (sh a 37) S0.2.2.2.2.2.1 ++ wFl k (sh a 2) S0.2.1) H.size) (wWi k (sh a 37) T0 ++ wFl k (sh a 2) T1)) : va_P D vwCl (wMa k a (xf (xw S0 T0) T1)) H1 ∧ va_D A0 (wMa k a (xf (xw S0 T0) T1)) := pf_J (fc24_p (S0 := S0)) (fc24_q (S0 := S0)) hP hD hk hF hP1 hD1

set_option maxRecDepth 100000 in
set_option maxHeartbeats 4000000 in
theorem fc25_p {k : Nat → ClassId} {a : Nat → Nat} {S0 : CS} : (wMa k a S0).Perm ((wEv k (sh a 54) S0.2.2.2.2.2.2) ++ (hMa k a S0.1 ++ wFl k (sh a 2) S0.2.1 ++ wFl k (sh a 7) S0.2.2.1 ++ wLe k (sh a 12) S0.2.2.2.1 ++ wHo k (sh a 19) S0.2.2.2.2.1 ++ wWi k (sh a 37) S0.2.2.2.2.2.1)) := by
  refine pm_iff (fun _ x => ?_)
  simp only [wMa, xe, List.count_append, List.count_nil, Nat.mul_zero, Nat.add_zero, Nat.zero_add]
  try omega
set_option maxRecDepth 100000 in
set_option maxHeartbeats 4000000 in
theorem fc25_q {k : Nat → ClassId} {a : Nat → Nat} {S0 : CS} {T0 : St × (Nat → St)} : (wMa k a (xe S0 T0)).Perm ((wEv k (sh a 54) T0) ++ (hMa k a S0.1 ++ wFl k (sh a 2) S0.2.1 ++ wFl k (sh a 7) S0.2.2.1 ++ wLe k (sh a 12) S0.2.2.2.1 ++ wHo k (sh a 19) S0.2.2.2.2.1 ++ wWi k (sh a 37) S0.2.2.2.2.2.1)) := by
  refine pm_iff (fun _ x => ?_)
  simp only [wMa, xe, List.count_append, List.count_nil, Nat.mul_zero, Nat.add_zero, Nat.zero_add]
  try omega
theorem fc25_P {D : va_G} {k : Nat → ClassId} {a : Nat → Nat} {S0 : CS} {H : Heap} (hP : va_P D vwCl (wMa k a S0) H) : va_P D vwCl (wEv k (sh a 54) S0.2.2.2.2.2.2) H := pf_P (fc25_p (S0 := S0)) hP
theorem fc25_D {k : Nat → ClassId} {a : Nat → Nat} {S0 : CS} {A : Nat → Prop} (hD : va_D A (wMa k a S0)) : va_D A (wEv k (sh a 54) S0.2.2.2.2.2.2) := pf_D (fc25_p (S0 := S0)) hD
theorem fc25_J {D : va_G} {k : Nat → ClassId} {a : Nat → Nat} {S0 : CS} {H : Heap} {H1 : Heap} {A0 : Nat → Prop} {T0 : St × (Nat → St)} (hP : va_P D vwCl (wMa k a S0) H) (hD : va_D A0 (wMa k a S0)) (hk : ∀ q : Nat, q < H.size → ¬ va_A (wEv k (sh a 54) S0.2.2.2.2.2.2) H.size q → H1[q]? = H[q]?) (hF : ∀ q, va_A (wEv k (sh a 54) S0.2.2.2.2.2.2) H.size q → A0 q) (hP1 : va_P D vwCl (wEv k (sh a 54) T0) H1) (hD1 : va_D (va_A (wEv k (sh a 54) S0.2.2.2.2.2.2) H.size) (wEv k (sh a 54) T0)) : va_P D vwCl (wMa k a (xe S0 T0)) H1 ∧ va_D A0 (wMa k a (xe S0 T0)) := pf_J (fc25_p (S0 := S0)) (fc25_q (S0 := S0)) hP hD hk hF hP1 hD1

set_option maxRecDepth 100000 in
set_option maxHeartbeats 4000000 in
theorem fc26_p {k : Nat → ClassId} {a : Nat → Nat} {S0 : CS} : (wMa k a S0).Perm ((wEv k (sh a 54) S0.2.2.2.2.2.2 ++ wFl k (sh a 2) S0.2.1) ++ (hMa k a S0.1 ++ wFl k (sh a 7) S0.2.2.1 ++ wLe k (sh a 12) S0.2.2.2.1 ++ wHo k (sh a 19) S0.2.2.2.2.1 ++ wWi k (sh a 37) S0.2.2.2.2.2.1)) := by
  refine pm_iff (fun _ x => ?_)
  simp only [wMa, xe, xf, List.count_append, List.count_nil, Nat.mul_zero, Nat.add_zero, Nat.zero_add]
  try omega
set_option maxRecDepth 100000 in
set_option maxHeartbeats 4000000 in
theorem fc26_q {k : Nat → ClassId} {a : Nat → Nat} {S0 : CS} {T0 : St × (Nat → St)} {T1 : St} : (wMa k a (xf (xe S0 T0) T1)).Perm ((wEv k (sh a 54) T0 ++ wFl k (sh a 2) T1) ++ (hMa k a S0.1 ++ wFl k (sh a 7) S0.2.2.1 ++ wLe k (sh a 12) S0.2.2.2.1 ++ wHo k (sh a 19) S0.2.2.2.2.1 ++ wWi k (sh a 37) S0.2.2.2.2.2.1)) := by
  refine pm_iff (fun _ x => ?_)
  simp only [wMa, xe, xf, List.count_append, List.count_nil, Nat.mul_zero, Nat.add_zero, Nat.zero_add]
  try omega
theorem fc26_P {D : va_G} {k : Nat → ClassId} {a : Nat → Nat} {S0 : CS} {H : Heap} (hP : va_P D vwCl (wMa k a S0) H) : va_P D vwCl (wEv k (sh a 54) S0.2.2.2.2.2.2 ++ wFl k (sh a 2) S0.2.1) H := pf_P (fc26_p (S0 := S0)) hP
theorem fc26_D {k : Nat → ClassId} {a : Nat → Nat} {S0 : CS} {A : Nat → Prop} (hD : va_D A (wMa k a S0)) : va_D A (wEv k (sh a 54) S0.2.2.2.2.2.2 ++ wFl k (sh a 2) S0.2.1) := pf_D (fc26_p (S0 := S0)) hD
theorem fc26_J {D : va_G} {k : Nat → ClassId} {a : Nat → Nat} {S0 : CS} {H : Heap} {H1 : Heap} {A0 : Nat → Prop} {T0 : St × (Nat → St)} {T1 : St} (hP : va_P D vwCl (wMa k a S0) H) (hD : va_D A0 (wMa k a S0)) (hk : ∀ q : Nat, q < H.size → ¬ va_A (wEv k (sh a 54) S0.2.2.2.2.2.2 ++ wFl k (sh a 2) S0.2.1) H.size q → H1[q]? = H[q]?) (hF : ∀ q, va_A (wEv k (sh a 54) S0.2.2.2.2.2.2 ++ wFl k (sh a 2) S0.2.1) H.size q → A0 q) (hP1 : va_P D vwCl (wEv k (sh a 54) T0 ++ wFl k (sh a 2) T1) H1) (hD1 : va_D (va_A (wEv k (sh a 54) S0.2.2.2.2.2.2 ++ wFl k (sh a 2) S0.2.1) H.size) (wEv k (sh a 54) T0 ++ wFl k (sh a 2) T1)) : va_P D vwCl (wMa k a (xf (xe S0 T0) T1)) H1 ∧ va_D A0 (wMa k a (xf (xe S0 T0) T1)) := pf_J (fc26_p (S0 := S0)) (fc26_q (S0 := S0)) hP hD hk hF hP1 hD1

set_option maxRecDepth 100000 in
set_option maxHeartbeats 4000000 in
theorem fc27_p {k : Nat → ClassId} {a : Nat → Nat} {S0 : CS} : (wMa k a S0).Perm ((wFl k (sh a 7) S0.2.2.1 ++ wFl k (sh a 2) S0.2.1) ++ (hMa k a S0.1 ++ wLe k (sh a 12) S0.2.2.2.1 ++ wHo k (sh a 19) S0.2.2.2.2.1 ++ wWi k (sh a 37) S0.2.2.2.2.2.1 ++ wEv k (sh a 54) S0.2.2.2.2.2.2)) := by
  refine pm_iff (fun _ x => ?_)
  simp only [wMa, xf, xt, List.count_append, List.count_nil, Nat.mul_zero, Nat.add_zero, Nat.zero_add]
  try omega
set_option maxRecDepth 100000 in
set_option maxHeartbeats 4000000 in
theorem fc27_q {k : Nat → ClassId} {a : Nat → Nat} {S0 : CS} {T0 : St} {T1 : St} : (wMa k a (xf (xt S0 T0) T1)).Perm ((wFl k (sh a 7) T0 ++ wFl k (sh a 2) T1) ++ (hMa k a S0.1 ++ wLe k (sh a 12) S0.2.2.2.1 ++ wHo k (sh a 19) S0.2.2.2.2.1 ++ wWi k (sh a 37) S0.2.2.2.2.2.1 ++ wEv k (sh a 54) S0.2.2.2.2.2.2)) := by
  refine pm_iff (fun _ x => ?_)
  simp only [wMa, xf, xt, List.count_append, List.count_nil, Nat.mul_zero, Nat.add_zero, Nat.zero_add]
  try omega
theorem fc27_P {D : va_G} {k : Nat → ClassId} {a : Nat → Nat} {S0 : CS} {H : Heap} (hP : va_P D vwCl (wMa k a S0) H) : va_P D vwCl (wFl k (sh a 7) S0.2.2.1 ++ wFl k (sh a 2) S0.2.1) H := pf_P (fc27_p (S0 := S0)) hP
theorem fc27_D {k : Nat → ClassId} {a : Nat → Nat} {S0 : CS} {A : Nat → Prop} (hD : va_D A (wMa k a S0)) : va_D A (wFl k (sh a 7) S0.2.2.1 ++ wFl k (sh a 2) S0.2.1) := pf_D (fc27_p (S0 := S0)) hD
theorem fc27_J {D : va_G} {k : Nat → ClassId} {a : Nat → Nat} {S0 : CS} {H : Heap} {H1 : Heap} {A0 : Nat → Prop} {T0 : St} {T1 : St} (hP : va_P D vwCl (wMa k a S0) H) (hD : va_D A0 (wMa k a S0)) (hk : ∀ q : Nat, q < H.size → ¬ va_A (wFl k (sh a 7) S0.2.2.1 ++ wFl k (sh a 2) S0.2.1) H.size q → H1[q]? = H[q]?) (hF : ∀ q, va_A (wFl k (sh a 7) S0.2.2.1 ++ wFl k (sh a 2) S0.2.1) H.size q → A0 q) (hP1 : va_P D vwCl (wFl k (sh a 7) T0 ++ wFl k (sh a 2) T1) H1) (hD1 : va_D (va_A (wFl k (sh a 7) S0.2.2.1 ++ wFl k (sh a 2) S0.2.1) H.size) (wFl k (sh a 7) T0 ++ wFl k (sh a 2) T1)) : va_P D vwCl (wMa k a (xf (xt S0 T0) T1)) H1 ∧ va_D A0 (wMa k a (xf (xt S0 T0) T1)) := pf_J (fc27_p (S0 := S0)) (fc27_q (S0 := S0)) hP hD hk hF hP1 hD1

set_option maxRecDepth 100000 in
set_option maxHeartbeats 4000000 in
theorem fc28_p {k : Nat → ClassId} {a : Nat → Nat} {S0 : CS} : (wMa k a S0).Perm ((wFl k (sh a 2) S0.2.1 ++ wFl k (sh a 7) S0.2.2.1) ++ (hMa k a S0.1 ++ wLe k (sh a 12) S0.2.2.2.1 ++ wHo k (sh a 19) S0.2.2.2.2.1 ++ wWi k (sh a 37) S0.2.2.2.2.2.1 ++ wEv k (sh a 54) S0.2.2.2.2.2.2)) := by
  refine pm_iff (fun _ x => ?_)
  simp only [wMa, xf, xt, List.count_append, List.count_nil, Nat.mul_zero, Nat.add_zero, Nat.zero_add]
  try omega
set_option maxRecDepth 100000 in
set_option maxHeartbeats 4000000 in
theorem fc28_q {k : Nat → ClassId} {a : Nat → Nat} {S0 : CS} {T0 : St} {T1 : St} : (wMa k a (xt (xf S0 T0) T1)).Perm ((wFl k (sh a 2) T0 ++ wFl k (sh a 7) T1) ++ (hMa k a S0.1 ++ wLe k (sh a 12) S0.2.2.2.1 ++ wHo k (sh a 19) S0.2.2.2.2.1 ++ wWi k (sh a 37) S0.2.2.2.2.2.1 ++ wEv k (sh a 54) S0.2.2.2.2.2.2)) := by
  refine pm_iff (fun _ x => ?_)
  simp only [wMa, xf, xt, List.count_append, List.count_nil, Nat.mul_zero, Nat.add_zero, Nat.zero_add]
  try omega
theorem fc28_P {D : va_G} {k : Nat → ClassId} {a : Nat → Nat} {S0 : CS} {H : Heap} (hP : va_P D vwCl (wMa k a S0) H) : va_P D vwCl (wFl k (sh a 2) S0.2.1 ++ wFl k (sh a 7) S0.2.2.1) H := pf_P (fc28_p (S0 := S0)) hP
theorem fc28_D {k : Nat → ClassId} {a : Nat → Nat} {S0 : CS} {A : Nat → Prop} (hD : va_D A (wMa k a S0)) : va_D A (wFl k (sh a 2) S0.2.1 ++ wFl k (sh a 7) S0.2.2.1) := pf_D (fc28_p (S0 := S0)) hD
theorem fc28_J {D : va_G} {k : Nat → ClassId} {a : Nat → Nat} {S0 : CS} {H : Heap} {H1 : Heap} {A0 : Nat → Prop} {T0 : St} {T1 : St} (hP : va_P D vwCl (wMa k a S0) H) (hD : va_D A0 (wMa k a S0)) (hk : ∀ q : Nat, q < H.size → ¬ va_A (wFl k (sh a 2) S0.2.1 ++ wFl k (sh a 7) S0.2.2.1) H.size q → H1[q]? = H[q]?) (hF : ∀ q, va_A (wFl k (sh a 2) S0.2.1 ++ wFl k (sh a 7) S0.2.2.1) H.size q → A0 q) (hP1 : va_P D vwCl (wFl k (sh a 2) T0 ++ wFl k (sh a 7) T1) H1) (hD1 : va_D (va_A (wFl k (sh a 2) S0.2.1 ++ wFl k (sh a 7) S0.2.2.1) H.size) (wFl k (sh a 2) T0 ++ wFl k (sh a 7) T1)) : va_P D vwCl (wMa k a (xt (xf S0 T0) T1)) H1 ∧ va_D A0 (wMa k a (xt (xf S0 T0) T1)) := pf_J (fc28_p (S0 := S0)) (fc28_q (S0 := S0)) hP hD hk hF hP1 hD1
