/-! X7_nextChoice -/
def wp_X7_nextChoice_55 (x1 : Int32) (Q : Int32 → St → Prop) (S0 : St) (x2 : Int32) : Prop := ((0 ≤ x2) → (vp_in x2 6 ∧ (vp_in x2 6 ∧ (∀ S_4, S_4 = (sA S0 30 x2.toNatClampNeg ((S0.2 30 x2.toNatClampNeg) + (1 : Int32))) → (Q (1 : Int32) S_4))))) ∧ ((¬ 0 ≤ x2) → (Q (0 : Int32) S0))
def wp_X7_nextChoice_27 (x1 : Int32) (Q : Int32 → St → Prop) : Nat → St → Int32 → Prop
  | 0, _, _ => False
  | n + 1, S0, x2 => ((x2 < 0) → (wp_X7_nextChoice_55 x1 Q S0 x2)) ∧ ((¬ x2 < 0) → (vp_in x2 6 ∧ (((¬ (S0.2 30 x2.toNatClampNeg) = (7 : Int32)) → (wp_X7_nextChoice_55 x1 Q S0 x2)) ∧ (((S0.2 30 x2.toNatClampNeg) = (7 : Int32)) → (vp_in x2 6 ∧ (∀ S_7, S_7 = (sA S0 30 x2.toNatClampNeg (0 : Int32)) → (wp_X7_nextChoice_27 x1 Q n S_7 (x2 + (-1)))))))))
def wp_X7_nextChoice_6 (x1 : Int32) (Q : Int32 → St → Prop) : Nat → St → Int32 → Int32 → Prop
  | 0, _, _, _ => False
  | n + 1, S0, x2, x3 => (((S0.1 29) ≤ x3) → (∃ i, wp_X7_nextChoice_27 x1 Q i S0 x2)) ∧ ((¬ (S0.1 29) ≤ x3) → (vp_in x3 6 ∧ (∀ S_10, S_10 = (sA S0 30 x3.toNatClampNeg (0 : Int32)) → (wp_X7_nextChoice_6 x1 Q n S_10 x2 (x3 + 1)))))
def wp_X7_nextChoice (S0 : St) (x1 : Int32) (Q : Int32 → St → Prop) : Prop := ∃ i, wp_X7_nextChoice_6 x1 Q i S0 x1 (x1 + (1 : Int32))
abbrev rmX7_nextChoice : Room := { frames := 0, cells := 0, slots := 0, locals := 0 }
set_option maxRecDepth 100000 in
set_option maxHeartbeats 4000000 in
theorem c_X7_nextChoice (l : Launch) (D : va_G) (k : Nat → ClassId) (a : Nat → Nat) (S0 : St) (sz : Nat) (x1 : Int32) (Q : Int32 → St → Prop) (h : wp_X7_nextChoice S0 x1 Q) : Met l yX7_nextChoice wsX7_nextChoice rmX7_nextChoice (cPc D k (wMo k a S0) [.ref (a 0), .int x1] sz) (va_Qi (fun (r : Int32) (u : St) => Q r u) (cB D k (va_A (wMo k a S0) sz) (fun u : St => wMo k a u)) (va_A (wMo k a S0) sz)) 0 0 (va_A (wMo k a S0) sz) := by
  refine ct_entry (cc := cX7_nextChoice) (maxL := 4) (ret := (some .boolean)) (Rn := RX7) (Qc := fun A => (va_Qi (fun (r : Int32) (u : St) => Q r u) (cB D k A (fun u : St => wMo k a u)) A)) (by decide) rfl rfl (Nat.le_of_ble_eq_true rfl) ?_
  intro p e s m below meth c hx hb hr hlocks hml hts hown hnw hK A hA H locs hP hD hS ls hl
  have hl : lv_has ls 4 [(0, .ref (a 0)), (1, .int x1)] := hl
  have ln_231 := hts (.fieldLink RX7 231 "WithTheSameOneModel" "rowMany" "I") (by decide +kernel)
  have ln_64 := hts (.fieldLink RX7 64 "WithTheSameOneModel" "choice" "[I") (by decide +kernel)
  have in_Mo : ∀ w ∈ wsX70, w ∈ wsX7_nextChoice := fun _ h => List.mem_cons_of_mem _ (List.mem_append_right _ h)
  have L_55 : ∀ (S0 : St) (x2 : Int32), ∀ (H : Heap) (locs : List Loc) (ls : Array Slot), va_P D vwCl (wMo k a S0) H → va_D A (wMo k a S0) → va_S A s.heap H locs → lv_has ls 4 [(0, .ref (a 0)), (2, .int x2)] → wp_X7_nextChoice_55 x1 Q S0 x2 → W p l e rmX7_nextChoice s m ([.ref (a 0), .int x1] : List Value).toArray below meth c H locs 0 0 (MQ below (va_Qi (fun (r : Int32) (u : St) => Q r u) (cB D k A (fun u : St => wMo k a u)) A) ([.ref (a 0), .int x1] : List Value).toArray s 0 0 A) (F0 m 55 ls []) := by
    intro S0 x2 H locs ls hP hD hS hl h
    unfold wp_X7_nextChoice_55 at h
    refine lv_iload_n hx hb dX7_nextChoice_55 rfl (lv_at hl 1 rfl) ?_
    refine lv_if_ge (tgt := 61) hx hb dX7_nextChoice_56 (by decide) (fun c_3 => ?_) (fun c_3 => ?_)
    · have h := h.1 c_3
      refine lv_aload_n hx hb dX7_nextChoice_61 rfl (lv_at hl 0 rfl) ?_
      refine va_get (D := D) (ci := 7) (v := .ref (a 19)) (C := RX7) (T := TX7) (N := 33) hx hb hts in_Mo hown hK hP 0 rfl rfl 30 (by decide) ln_64 (fun _ h9 => h9) rfl dX7_nextChoice_62 ?_
      refine lv_iload_n hx hb dX7_nextChoice_65 rfl (lv_at hl 1 rfl) ?_
      refine lv_dup2_11 hx hb dX7_nextChoice_66 rfl rfl ?_
      refine va_iald hx hb hK hP 19 0 rfl rfl h.1 dX7_nextChoice_67 ?_
      have h := h.2
      refine lv_iconst (v := (1 : Int32)) hx hb dX7_nextChoice_68 (by decide) ?_
      refine lv_iadd hx hb dX7_nextChoice_69 ?_
      refine va_iast hx hb hK hP hD hS 19 0 rfl rfl h.1 dX7_nextChoice_70 (fun H locs hP hD hS => ?_)
      have h := h.2
      obtain ⟨S_4, e_5⟩ : ∃ z : St, z = (sA S0 30 x2.toNatClampNeg ((S0.2 30 x2.toNatClampNeg) + (1 : Int32))) := ⟨_, rfl⟩
      have h := h S_4 e_5
      have hP : va_P D vwCl (wMo k a S_4) H := by rw [e_5]; exact hP
      have hD : va_D A (wMo k a S_4) := by rw [e_5]; exact hD
      refine lv_iconst (v := (1 : Int32)) hx hb dX7_nextChoice_71 (by decide) ?_
      exact W.zret (v := (1 : Int32)) hx hb hr rfl (fun t ht hW => ⟨⟨(1 : Int32), S_4, rfl, h, by rw [ht]; exact hP, va_K.moved hW.alike hK, hD⟩, hS.F ht⟩) hS.2.2 dX7_nextChoice_72
    · have h := h.2 c_3
      refine lv_iconst (v := (0 : Int32)) hx hb dX7_nextChoice_59 (by decide) ?_
      exact W.zret (v := (0 : Int32)) hx hb hr rfl (fun t ht hW => ⟨⟨(0 : Int32), S0, rfl, h, by rw [ht]; exact hP, va_K.moved hW.alike hK, hD⟩, hS.F ht⟩) hS.2.2 dX7_nextChoice_60
  have L_27 : ∀ (n : Nat), ∀ (S0 : St) (x2 : Int32), ∀ (H : Heap) (locs : List Loc) (ls : Array Slot), va_P D vwCl (wMo k a S0) H → va_D A (wMo k a S0) → va_S A s.heap H locs → lv_has ls 4 [(0, .ref (a 0)), (2, .int x2)] → wp_X7_nextChoice_27 x1 Q n S0 x2 → W p l e rmX7_nextChoice s m ([.ref (a 0), .int x1] : List Value).toArray below meth c H locs 0 0 (MQ below (va_Qi (fun (r : Int32) (u : St) => Q r u) (cB D k A (fun u : St => wMo k a u)) A) ([.ref (a 0), .int x1] : List Value).toArray s 0 0 A) (F0 m 27 ls []) := by
    intro n
    induction n with
    | zero => intro S0 x2 H locs ls hP hD hS hl h; exact absurd h (by unfold wp_X7_nextChoice_27; exact id)
    | succ n ih =>
      intro S0 x2 H locs ls hP hD hS hl h
      unfold wp_X7_nextChoice_27 at h
      refine lv_iload_n hx hb dX7_nextChoice_27 rfl (lv_at hl 1 rfl) ?_
      refine lv_if_lt (tgt := 55) hx hb dX7_nextChoice_28 (by decide) (fun c_2 => ?_) (fun c_2 => ?_)
      · have h := h.1 c_2
        exact L_55 S0 x2 H locs ls hP hD hS (lv_sub hl [0, 1] rfl) h
      · have h := h.2 c_2
        refine lv_aload_n hx hb dX7_nextChoice_31 rfl (lv_at hl 0 rfl) ?_
        refine va_get (D := D) (ci := 7) (v := .ref (a 19)) (C := RX7) (T := TX7) (N := 33) hx hb hts in_Mo hown hK hP 0 rfl rfl 30 (by decide) ln_64 (fun _ h9 => h9) rfl dX7_nextChoice_32 ?_
        refine lv_iload_n hx hb dX7_nextChoice_35 rfl (lv_at hl 1 rfl) ?_
        refine va_iald hx hb hK hP 19 0 rfl rfl h.1 dX7_nextChoice_36 ?_
        have h := h.2
        refine lv_bipush (v := (7 : Int32)) hx hb dX7_nextChoice_37 (by decide) ?_
        refine lv_icmp_ne (tgt := 55) hx hb dX7_nextChoice_39 (by decide) (fun c_6 => ?_) (fun c_6 => ?_)
        · have h := h.1 c_6
          exact L_55 S0 x2 H locs ls hP hD hS (lv_sub hl [0, 1] rfl) h
        · have h := h.2 c_6
          refine lv_aload_n hx hb dX7_nextChoice_42 rfl (lv_at hl 0 rfl) ?_
          refine va_get (D := D) (ci := 7) (v := .ref (a 19)) (C := RX7) (T := TX7) (N := 33) hx hb hts in_Mo hown hK hP 0 rfl rfl 30 (by decide) ln_64 (fun _ h9 => h9) rfl dX7_nextChoice_43 ?_
          refine lv_iload_n hx hb dX7_nextChoice_46 rfl (lv_at hl 1 rfl) ?_
          refine lv_iconst (v := (0 : Int32)) hx hb dX7_nextChoice_47 (by decide) ?_
          refine va_iast hx hb hK hP hD hS 19 0 rfl rfl h.1 dX7_nextChoice_48 (fun H locs hP hD hS => ?_)
          have h := h.2
          obtain ⟨S_7, e_8⟩ : ∃ z : St, z = (sA S0 30 x2.toNatClampNeg (0 : Int32)) := ⟨_, rfl⟩
          have h := h S_7 e_8
          have hP : va_P D vwCl (wMo k a S_7) H := by rw [e_8]; exact hP
          have hD : va_D A (wMo k a S_7) := by rw [e_8]; exact hD
          refine lv_iinc (v := (x2 + (-1))) (lv' := [(2, .int (x2 + (-1))), (0, .ref (a 0))]) hx hb dX7_nextChoice_49 hl (k := 1) rfl rfl (by decide) rfl (fun ls hl => ?_)
          refine lv_goto (tgt := 27) hx hb dX7_nextChoice_52 (by decide) ?_
          exact ih S_7 (x2 + (-1)) H locs ls hP hD hS (lv_sub hl [1, 0] rfl) h
  have L_6 : ∀ (n : Nat), ∀ (S0 : St) (x2 : Int32) (x3 : Int32), ∀ (H : Heap) (locs : List Loc) (ls : Array Slot), va_P D vwCl (wMo k a S0) H → va_D A (wMo k a S0) → va_S A s.heap H locs → lv_has ls 4 [(0, .ref (a 0)), (2, .int x2), (3, .int x3)] → wp_X7_nextChoice_6 x1 Q n S0 x2 x3 → W p l e rmX7_nextChoice s m ([.ref (a 0), .int x1] : List Value).toArray below meth c H locs 0 0 (MQ below (va_Qi (fun (r : Int32) (u : St) => Q r u) (cB D k A (fun u : St => wMo k a u)) A) ([.ref (a 0), .int x1] : List Value).toArray s 0 0 A) (F0 m 6 ls []) := by
    intro n
    induction n with
    | zero => intro S0 x2 x3 H locs ls hP hD hS hl h; exact absurd h (by unfold wp_X7_nextChoice_6; exact id)
    | succ n ih =>
      intro S0 x2 x3 H locs ls hP hD hS hl h
      unfold wp_X7_nextChoice_6 at h
      refine lv_iload_n hx hb dX7_nextChoice_6 rfl (lv_at hl 2 rfl) ?_
      refine lv_aload_n hx hb dX7_nextChoice_7 rfl (lv_at hl 0 rfl) ?_
      refine va_get (D := D) (ci := 7) (v := .int (S0.1 29)) (C := RX7) (T := TX7) (N := 33) hx hb hts in_Mo hown hK hP 0 rfl rfl 29 (by decide) ln_231 (fun _ h9 => h9) rfl dX7_nextChoice_8 ?_
      refine lv_icmp_ge (tgt := 27) hx hb dX7_nextChoice_11 (by decide) (fun c_1 => ?_) (fun c_1 => ?_)
      · have h := h.1 c_1
        obtain ⟨n_9, h⟩ := h
        exact L_27 n_9 S0 x2 H locs ls hP hD hS (lv_sub hl [0, 1] rfl) h
      · have h := h.2 c_1
        refine lv_aload_n hx hb dX7_nextChoice_14 rfl (lv_at hl 0 rfl) ?_
        refine va_get (D := D) (ci := 7) (v := .ref (a 19)) (C := RX7) (T := TX7) (N := 33) hx hb hts in_Mo hown hK hP 0 rfl rfl 30 (by decide) ln_64 (fun _ h9 => h9) rfl dX7_nextChoice_15 ?_
        refine lv_iload_n hx hb dX7_nextChoice_18 rfl (lv_at hl 2 rfl) ?_
        refine lv_iconst (v := (0 : Int32)) hx hb dX7_nextChoice_19 (by decide) ?_
        refine va_iast hx hb hK hP hD hS 19 0 rfl rfl h.1 dX7_nextChoice_20 (fun H locs hP hD hS => ?_)
        have h := h.2
        obtain ⟨S_10, e_11⟩ : ∃ z : St, z = (sA S0 30 x3.toNatClampNeg (0 : Int32)) := ⟨_, rfl⟩
        have h := h S_10 e_11
        have hP : va_P D vwCl (wMo k a S_10) H := by rw [e_11]; exact hP
        have hD : va_D A (wMo k a S_10) := by rw [e_11]; exact hD
        refine lv_iinc (v := (x3 + 1)) (lv' := [(3, .int (x3 + 1)), (0, .ref (a 0)), (2, .int x2)]) hx hb dX7_nextChoice_21 hl (k := 2) rfl rfl (by decide) rfl (fun ls hl => ?_)
        refine lv_goto (tgt := 6) hx hb dX7_nextChoice_24 (by decide) ?_
        exact ih S_10 x2 (x3 + 1) H locs ls hP hD hS (lv_sub hl [1, 2, 0] rfl) h
  unfold wp_X7_nextChoice at h
  refine lv_iload_n hx hb dX7_nextChoice_0 rfl (lv_at hl 1 rfl) ?_
  refine lv_istore_n (lv' := [(2, .int x1), (0, .ref (a 0)), (1, .int x1)]) hx hb dX7_nextChoice_1 rfl hl (by decide) rfl (fun ls hl => ?_)
  refine lv_iload_n hx hb dX7_nextChoice_2 rfl (lv_at hl 0 rfl) ?_
  refine lv_iconst (v := (1 : Int32)) hx hb dX7_nextChoice_3 (by decide) ?_
  refine lv_iadd hx hb dX7_nextChoice_4 ?_
  refine lv_istore_n (lv' := [(3, .int (x1 + (1 : Int32))), (2, .int x1), (0, .ref (a 0)), (1, .int x1)]) hx hb dX7_nextChoice_5 rfl hl (by decide) rfl (fun ls hl => ?_)
  obtain ⟨n_12, h⟩ := h
  exact L_6 n_12 S0 x1 (x1 + (1 : Int32)) H locs ls hP hD hS (lv_sub hl [2, 1, 0] rfl) h
/-! X7_load -/
def wp_X7_load_74 (K50 : St → Int32 → Int32 → Prop) (Q : Int32 → St → Prop) (S0 : St) (x1 : Int32) : Prop := ((¬ (S0.1 32) = (S0.1 29)) → (wp_X7_nextChoice S0 (S0.1 32) (fun r_9 u_10 => K50 u_10 x1 r_9))) ∧ (((S0.1 32) = (S0.1 29)) → (wp_X7_nextChoice S0 ((S0.1 29) - (1 : Int32)) (fun r_11 u_12 => K50 u_12 x1 r_11)))
def wp_X7_load_50 (Q : Int32 → St → Prop) : Nat → St → Int32 → Int32 → Prop
  | 0, _, _, _ => False
  | n + 1, S0, x1, x2 => ((x2 = 0) → (Q x1 S0)) ∧ ((¬ x2 = 0) → (wp_X7_loadBy S0 (fun r_5 u_6 => ((r_5 < 0) → (wp_X7_load_74 (fun s0 v0 v1 => wp_X7_load_50 Q n s0 v0 v1) Q u_6 x1)) ∧ ((¬ r_5 < 0) → (((x1 < 0) → (wp_X7_load_74 (fun s0 v0 v1 => wp_X7_load_50 Q n s0 v0 v1) Q u_6 r_5)) ∧ ((¬ x1 < 0) → (((x1 ≤ r_5) → (wp_X7_load_74 (fun s0 v0 v1 => wp_X7_load_50 Q n s0 v0 v1) Q u_6 x1)) ∧ ((¬ x1 ≤ r_5) → (wp_X7_load_74 (fun s0 v0 v1 => wp_X7_load_50 Q n s0 v0 v1) Q u_6 r_5)))))))))
def wp_X7_load_17 (Q : Int32 → St → Prop) : Nat → St → Int32 → Prop
  | 0, _, _ => False
  | n + 1, S0, x1 => (((6 : Int32) ≤ x1) → (((¬ (S0.1 29) = 0) → (∃ i, wp_X7_load_50 Q i S0 (-9 : Int32) (1 : Int32))) ∧ (((S0.1 29) = 0) → (Q (0 : Int32) S0)))) ∧ ((¬ (6 : Int32) ≤ x1) → (vp_in x1 6 ∧ (∀ S_16, S_16 = (sA S0 30 x1.toNatClampNeg (0 : Int32)) → (wp_X7_load_17 Q n S_16 (x1 + 1)))))
def wp_X7_load (S0 : St) (Q : Int32 → St → Prop) : Prop := ((¬ (S0.1 6) = (1 : Int32)) → (∃ i, wp_X7_load_17 Q i S0 (0 : Int32))) ∧ (((S0.1 6) = (1 : Int32)) → (wp_X7_no S0 (-3 : Int32) (fun r_19 u_20 => Q r_19 u_20)))
abbrev rmX7_load : Room := { frames := 5, cells := 0, slots := 0, locals := 122 }
set_option maxRecDepth 100000 in
set_option maxHeartbeats 4000000 in
theorem c_X7_load (l : Launch) (D : va_G) (k : Nat → ClassId) (a : Nat → Nat) (S0 : St) (sz : Nat) (Q : Int32 → St → Prop) (h : wp_X7_load S0 Q) : Met l yX7_load wsX7_load rmX7_load (cPc D k (wMo k a S0) [.ref (a 0)] sz) (va_Qi (fun (r : Int32) (u : St) => Q r u) (cB D k (va_A (wMo k a S0) sz) (fun u : St => wMo k a u)) (va_A (wMo k a S0) sz)) 0 0 (va_A (wMo k a S0) sz) := by
  refine ct_entry (cc := cX7_load) (maxL := 4) (ret := (some .int)) (Rn := RX7) (Qc := fun A => (va_Qi (fun (r : Int32) (u : St) => Q r u) (cB D k A (fun u : St => wMo k a u)) A)) (by decide) rfl rfl (Nat.le_of_ble_eq_true rfl) ?_
  intro p e s m below meth c hx hb hr hlocks hml hts hown hnw hK A hA H locs hP hD hS ls hl
  have hl : lv_has ls 4 [(0, .ref (a 0))] := hl
  have ln_109 := hts (.fieldLink RX7 109 "WithTheSameOneModel" "law" "I") (by decide +kernel)
  have ln_231 := hts (.fieldLink RX7 231 "WithTheSameOneModel" "rowMany" "I") (by decide +kernel)
  have ln_240 := hts (.fieldLink RX7 240 "WithTheSameOneModel" "failing" "I") (by decide +kernel)
  have ln_64 := hts (.fieldLink RX7 64 "WithTheSameOneModel" "choice" "[I") (by decide +kernel)
  have in_Mo : ∀ w ∈ wsX70, w ∈ wsX7_load := fun _ h => List.mem_cons_of_mem _ (List.mem_append_right _ h)
  have L_74 : ∀ (K50 : St → Int32 → Int32 → Prop), (∀ (S0 : St) (x1 : Int32) (x2 : Int32), ∀ (H : Heap) (locs : List Loc) (ls : Array Slot), va_P D vwCl (wMo k a S0) H → va_D A (wMo k a S0) → va_S A s.heap H locs → lv_has ls 4 [(0, .ref (a 0)), (1, .int x1), (2, .int x2)] → K50 S0 x1 x2 → W p l e rmX7_load s m ([.ref (a 0)] : List Value).toArray below meth c H locs 0 0 (MQ below (va_Qi (fun (r : Int32) (u : St) => Q r u) (cB D k A (fun u : St => wMo k a u)) A) ([.ref (a 0)] : List Value).toArray s 0 0 A) (F0 m 50 ls [])) → ∀ (S0 : St) (x1 : Int32), ∀ (H : Heap) (locs : List Loc) (ls : Array Slot), va_P D vwCl (wMo k a S0) H → va_D A (wMo k a S0) → va_S A s.heap H locs → lv_has ls 4 [(0, .ref (a 0)), (1, .int x1)] → wp_X7_load_74 K50 Q S0 x1 → W p l e rmX7_load s m ([.ref (a 0)] : List Value).toArray below meth c H locs 0 0 (MQ below (va_Qi (fun (r : Int32) (u : St) => Q r u) (cB D k A (fun u : St => wMo k a u)) A) ([.ref (a 0)] : List Value).toArray s 0 0 A) (F0 m 74 ls []) := by
    intro K50 hK50 S0 x1 H locs ls hP hD hS hl h
    unfold wp_X7_load_74 at h
    refine lv_aload_n hx hb dX7_load_74 rfl (lv_at hl 0 rfl) ?_
    refine lv_aload_n hx hb dX7_load_75 rfl (lv_at hl 0 rfl) ?_
    refine va_get (D := D) (ci := 7) (v := .int (S0.1 32)) (C := RX7) (T := TX7) (N := 33) hx hb hts in_Mo hown hK hP 0 rfl rfl 32 (by decide) ln_240 (fun _ h9 => h9) rfl dX7_load_76 ?_
    refine lv_aload_n hx hb dX7_load_79 rfl (lv_at hl 0 rfl) ?_
    refine va_get (D := D) (ci := 7) (v := .int (S0.1 29)) (C := RX7) (T := TX7) (N := 33) hx hb hts in_Mo hown hK hP 0 rfl rfl 29 (by decide) ln_231 (fun _ h9 => h9) rfl dX7_load_80 ?_
    refine lv_icmp_ne (tgt := 95) hx hb dX7_load_83 (by decide) (fun c_8 => ?_) (fun c_8 => ?_)
    · have h := h.1 c_8
      refine lv_aload_n hx hb dX7_load_95 rfl (lv_at hl 0 rfl) ?_
      refine va_get (D := D) (ci := 7) (v := .int (S0.1 32)) (C := RX7) (T := TX7) (N := 33) hx hb hts in_Mo hown hK hP 0 rfl rfl 32 (by decide) ln_240 (fun _ h9 => h9) rfl dX7_load_96 ?_
      have hFc := fr_self hD hS hA
      refine gv_i (va_runV (As := [.int (S0.1 32)]) (rest := []) ⟨hx, hb, hml, hown, hts⟩ (c_X7_nextChoice l D k a S0 H.size (S0.1 32) _ h) (cwV 1 hts gX7_load_X7_nextChoice rfl rfl rfl (by decide +kernel) ⟨Nat.le_of_ble_eq_true rfl, Nat.le_of_ble_eq_true rfl⟩) (gv_preV hK hnw hP hD (ci := 7) rfl 0 rfl) rfl rfl hl.1 rfl (lv_room (Nat.le_of_ble_eq_true rfl)) dX7_load_99 ⟨Nat.zero_le _, Nat.zero_le _⟩) hS hFc (fun r_9 u_10 H locs h hP1 hD1 hk1 hS => ?_)
      have hP := hP1
      have hD := hD1.weaken (fun _ _ _ z => hFc _ z)
      refine lv_istore_n (lv' := [(2, .int r_9), (0, .ref (a 0)), (1, .int x1)]) hx hb dX7_load_102 rfl hl (by decide) rfl (fun ls hl => ?_)
      refine lv_goto (tgt := 50) hx hb dX7_load_103 (by decide) ?_
      exact hK50 u_10 x1 r_9 H locs ls hP hD hS (lv_sub hl [1, 2, 0] rfl) h
    · have h := h.2 c_8
      refine lv_aload_n hx hb dX7_load_86 rfl (lv_at hl 0 rfl) ?_
      refine va_get (D := D) (ci := 7) (v := .int (S0.1 29)) (C := RX7) (T := TX7) (N := 33) hx hb hts in_Mo hown hK hP 0 rfl rfl 29 (by decide) ln_231 (fun _ h9 => h9) rfl dX7_load_87 ?_
      refine lv_iconst (v := (1 : Int32)) hx hb dX7_load_90 (by decide) ?_
      refine lv_isub hx hb dX7_load_91 ?_
      refine lv_goto (tgt := 99) hx hb dX7_load_92 (by decide) ?_
      have hFc := fr_self hD hS hA
      refine gv_i (va_runV (As := [.int ((S0.1 29) - (1 : Int32))]) (rest := []) ⟨hx, hb, hml, hown, hts⟩ (c_X7_nextChoice l D k a S0 H.size ((S0.1 29) - (1 : Int32)) _ h) (cwV 1 hts gX7_load_X7_nextChoice rfl rfl rfl (by decide +kernel) ⟨Nat.le_of_ble_eq_true rfl, Nat.le_of_ble_eq_true rfl⟩) (gv_preV hK hnw hP hD (ci := 7) rfl 0 rfl) rfl rfl hl.1 rfl (lv_room (Nat.le_of_ble_eq_true rfl)) dX7_load_99 ⟨Nat.zero_le _, Nat.zero_le _⟩) hS hFc (fun r_11 u_12 H locs h hP1 hD1 hk1 hS => ?_)
      have hP := hP1
      have hD := hD1.weaken (fun _ _ _ z => hFc _ z)
      refine lv_istore_n (lv' := [(2, .int r_11), (0, .ref (a 0)), (1, .int x1)]) hx hb dX7_load_102 rfl hl (by decide) rfl (fun ls hl => ?_)
      refine lv_goto (tgt := 50) hx hb dX7_load_103 (by decide) ?_
      exact hK50 u_12 x1 r_11 H locs ls hP hD hS (lv_sub hl [1, 2, 0] rfl) h
  have L_50 : ∀ (n : Nat), ∀ (S0 : St) (x1 : Int32) (x2 : Int32), ∀ (H : Heap) (locs : List Loc) (ls : Array Slot), va_P D vwCl (wMo k a S0) H → va_D A (wMo k a S0) → va_S A s.heap H locs → lv_has ls 4 [(0, .ref (a 0)), (1, .int x1), (2, .int x2)] → wp_X7_load_50 Q n S0 x1 x2 → W p l e rmX7_load s m ([.ref (a 0)] : List Value).toArray below meth c H locs 0 0 (MQ below (va_Qi (fun (r : Int32) (u : St) => Q r u) (cB D k A (fun u : St => wMo k a u)) A) ([.ref (a 0)] : List Value).toArray s 0 0 A) (F0 m 50 ls []) := by
    intro n
    induction n with
    | zero => intro S0 x1 x2 H locs ls hP hD hS hl h; exact absurd h (by unfold wp_X7_load_50; exact id)
    | succ n ih =>
      intro S0 x1 x2 H locs ls hP hD hS hl h
      unfold wp_X7_load_50 at h
      refine lv_iload_n hx hb dX7_load_50 rfl (lv_at hl 2 rfl) ?_
      refine lv_if_eq (tgt := 106) hx hb dX7_load_51 (by decide) (fun c_4 => ?_) (fun c_4 => ?_)
      · have h := h.1 c_4
        refine lv_iload_n hx hb dX7_load_106 rfl (lv_at hl 1 rfl) ?_
        exact W.iret (v := x1) hx hb hr (fun t ht hW => ⟨⟨x1, S0, rfl, h, by rw [ht]; exact hP, va_K.moved hW.alike hK, hD⟩, hS.F ht⟩) hS.2.2 dX7_load_107
      · have h := h.2 c_4
        refine lv_aload_n hx hb dX7_load_54 rfl (lv_at hl 0 rfl) ?_
        have hFc := fr_self hD hS hA
        refine gv_i (va_runV (As := []) (rest := []) ⟨hx, hb, hml, hown, hts⟩ (c_X7_loadBy l D k a S0 H.size _ h) (cwV 0 hts gX7_load_X7_loadBy rfl rfl rfl (by decide +kernel) ⟨Nat.le_of_ble_eq_true rfl, Nat.le_of_ble_eq_true rfl⟩) (gv_preV hK hnw hP hD (ci := 7) rfl 0 rfl) rfl rfl hl.1 rfl (lv_room (Nat.le_of_ble_eq_true rfl)) dX7_load_55 ⟨Nat.zero_le _, Nat.zero_le _⟩) hS hFc (fun r_5 u_6 H locs h hP1 hD1 hk1 hS => ?_)
        have hP := hP1
        have hD := hD1.weaken (fun _ _ _ z => hFc _ z)
        refine lv_istore_n (lv' := [(3, .int r_5), (0, .ref (a 0)), (1, .int x1), (2, .int x2)]) hx hb dX7_load_58 rfl hl (by decide) rfl (fun ls hl => ?_)
        refine lv_iload_n hx hb dX7_load_59 rfl (lv_at hl 0 rfl) ?_
        refine lv_if_lt (tgt := 74) hx hb dX7_load_60 (by decide) (fun c_7 => ?_) (fun c_7 => ?_)
        · have h := h.1 c_7
          exact L_74 (fun s0 v0 v1 => wp_X7_load_50 Q n s0 v0 v1) ih u_6 x1 H locs ls hP hD hS (lv_sub hl [1, 2] rfl) h
        · have h := h.2 c_7
          refine lv_iload_n hx hb dX7_load_63 rfl (lv_at hl 2 rfl) ?_
          refine lv_if_lt (tgt := 72) hx hb dX7_load_64 (by decide) (fun c_13 => ?_) (fun c_13 => ?_)
          · have h := h.1 c_13
            refine lv_iload_n hx hb dX7_load_72 rfl (lv_at hl 0 rfl) ?_
            refine lv_istore_n (lv' := [(1, .int r_5), (3, .int r_5), (0, .ref (a 0)), (2, .int x2)]) hx hb dX7_load_73 rfl hl (by decide) rfl (fun ls hl => ?_)
            exact L_74 (fun s0 v0 v1 => wp_X7_load_50 Q n s0 v0 v1) ih u_6 r_5 H locs ls hP hD hS (lv_sub hl [2, 0] rfl) h
          · have h := h.2 c_13
            refine lv_iload_n hx hb dX7_load_67 rfl (lv_at hl 0 rfl) ?_
            refine lv_iload_n hx hb dX7_load_68 rfl (lv_at hl 2 rfl) ?_
            refine lv_icmp_ge (tgt := 74) hx hb dX7_load_69 (by decide) (fun c_14 => ?_) (fun c_14 => ?_)
            · have h := h.1 c_14
              exact L_74 (fun s0 v0 v1 => wp_X7_load_50 Q n s0 v0 v1) ih u_6 x1 H locs ls hP hD hS (lv_sub hl [1, 2] rfl) h
            · have h := h.2 c_14
              refine lv_iload_n hx hb dX7_load_72 rfl (lv_at hl 0 rfl) ?_
              refine lv_istore_n (lv' := [(1, .int r_5), (3, .int r_5), (0, .ref (a 0)), (2, .int x2)]) hx hb dX7_load_73 rfl hl (by decide) rfl (fun ls hl => ?_)
              exact L_74 (fun s0 v0 v1 => wp_X7_load_50 Q n s0 v0 v1) ih u_6 r_5 H locs ls hP hD hS (lv_sub hl [2, 0] rfl) h
  have L_17 : ∀ (n : Nat), ∀ (S0 : St) (x1 : Int32), ∀ (H : Heap) (locs : List Loc) (ls : Array Slot), va_P D vwCl (wMo k a S0) H → va_D A (wMo k a S0) → va_S A s.heap H locs → lv_has ls 4 [(0, .ref (a 0)), (1, .int x1)] → wp_X7_load_17 Q n S0 x1 → W p l e rmX7_load s m ([.ref (a 0)] : List Value).toArray below meth c H locs 0 0 (MQ below (va_Qi (fun (r : Int32) (u : St) => Q r u) (cB D k A (fun u : St => wMo k a u)) A) ([.ref (a 0)] : List Value).toArray s 0 0 A) (F0 m 17 ls []) := by
    intro n
    induction n with
    | zero => intro S0 x1 H locs ls hP hD hS hl h; exact absurd h (by unfold wp_X7_load_17; exact id)
    | succ n ih =>
      intro S0 x1 H locs ls hP hD hS hl h
      unfold wp_X7_load_17 at h
      refine lv_iload_n hx hb dX7_load_17 rfl (lv_at hl 1 rfl) ?_
      refine lv_bipush (v := (6 : Int32)) hx hb dX7_load_18 (by decide) ?_
      refine lv_icmp_ge (tgt := 36) hx hb dX7_load_20 (by decide) (fun c_2 => ?_) (fun c_2 => ?_)
      · have h := h.1 c_2
        refine lv_aload_n hx hb dX7_load_36 rfl (lv_at hl 0 rfl) ?_
        refine va_get (D := D) (ci := 7) (v := .int (S0.1 29)) (C := RX7) (T := TX7) (N := 33) hx hb hts in_Mo hown hK hP 0 rfl rfl 29 (by decide) ln_231 (fun _ h9 => h9) rfl dX7_load_37 ?_
        refine lv_if_ne (tgt := 45) hx hb dX7_load_40 (by decide) (fun c_3 => ?_) (fun c_3 => ?_)
        · have h := h.1 c_3
          refine lv_bipush (v := (-9 : Int32)) hx hb dX7_load_45 (by decide) ?_
          refine lv_istore_n (lv' := [(1, .int (-9 : Int32)), (0, .ref (a 0))]) hx hb dX7_load_47 rfl hl (by decide) rfl (fun ls hl => ?_)
          refine lv_iconst (v := (1 : Int32)) hx hb dX7_load_48 (by decide) ?_
          refine lv_istore_n (lv' := [(2, .int (1 : Int32)), (1, .int (-9 : Int32)), (0, .ref (a 0))]) hx hb dX7_load_49 rfl hl (by decide) rfl (fun ls hl => ?_)
          obtain ⟨n_15, h⟩ := h
          exact L_50 n_15 S0 (-9 : Int32) (1 : Int32) H locs ls hP hD hS (lv_sub hl [2, 1, 0] rfl) h
        · have h := h.2 c_3
          refine lv_iconst (v := (0 : Int32)) hx hb dX7_load_43 (by decide) ?_
          exact W.iret (v := (0 : Int32)) hx hb hr (fun t ht hW => ⟨⟨(0 : Int32), S0, rfl, h, by rw [ht]; exact hP, va_K.moved hW.alike hK, hD⟩, hS.F ht⟩) hS.2.2 dX7_load_44
      · have h := h.2 c_2
        refine lv_aload_n hx hb dX7_load_23 rfl (lv_at hl 0 rfl) ?_
        refine va_get (D := D) (ci := 7) (v := .ref (a 19)) (C := RX7) (T := TX7) (N := 33) hx hb hts in_Mo hown hK hP 0 rfl rfl 30 (by decide) ln_64 (fun _ h9 => h9) rfl dX7_load_24 ?_
        refine lv_iload_n hx hb dX7_load_27 rfl (lv_at hl 1 rfl) ?_
        refine lv_iconst (v := (0 : Int32)) hx hb dX7_load_28 (by decide) ?_
        refine va_iast hx hb hK hP hD hS 19 0 rfl rfl h.1 dX7_load_29 (fun H locs hP hD hS => ?_)
        have h := h.2
        obtain ⟨S_16, e_17⟩ : ∃ z : St, z = (sA S0 30 x1.toNatClampNeg (0 : Int32)) := ⟨_, rfl⟩
        have h := h S_16 e_17
        have hP : va_P D vwCl (wMo k a S_16) H := by rw [e_17]; exact hP
        have hD : va_D A (wMo k a S_16) := by rw [e_17]; exact hD
        refine lv_iinc (v := (x1 + 1)) (lv' := [(1, .int (x1 + 1)), (0, .ref (a 0))]) hx hb dX7_load_30 hl (k := 1) rfl rfl (by decide) rfl (fun ls hl => ?_)
        refine lv_goto (tgt := 17) hx hb dX7_load_33 (by decide) ?_
        exact ih S_16 (x1 + 1) H locs ls hP hD hS (lv_sub hl [1, 0] rfl) h
  unfold wp_X7_load at h
  refine lv_aload_n hx hb dX7_load_0 rfl (lv_at hl 0 rfl) ?_
  refine va_get (D := D) (ci := 7) (v := .int (S0.1 6)) (C := RX7) (T := TX7) (N := 33) hx hb hts in_Mo hown hK hP 0 rfl rfl 6 (by decide) ln_109 (fun _ h9 => h9) rfl dX7_load_1 ?_
  refine lv_iconst (v := (1 : Int32)) hx hb dX7_load_4 (by decide) ?_
  refine lv_icmp_ne (tgt := 15) hx hb dX7_load_5 (by decide) (fun c_1 => ?_) (fun c_1 => ?_)
  · have h := h.1 c_1
    refine lv_iconst (v := (0 : Int32)) hx hb dX7_load_15 (by decide) ?_
    refine lv_istore_n (lv' := [(1, .int (0 : Int32)), (0, .ref (a 0))]) hx hb dX7_load_16 rfl hl (by decide) rfl (fun ls hl => ?_)
    obtain ⟨n_18, h⟩ := h
    exact L_17 n_18 S0 (0 : Int32) H locs ls hP hD hS (lv_sub hl [1, 0] rfl) h
  · have h := h.2 c_1
    refine lv_aload_n hx hb dX7_load_8 rfl (lv_at hl 0 rfl) ?_
    refine lv_bipush (v := (-3 : Int32)) hx hb dX7_load_9 (by decide) ?_
    have hFc := fr_self hD hS hA
    refine gv_i (va_runV (As := [.int (-3 : Int32)]) (rest := []) ⟨hx, hb, hml, hown, hts⟩ (c_X7_no l D k a S0 H.size (-3 : Int32) _ h) (cwV 1 hts gX7_load_X7_no rfl rfl rfl (by decide +kernel) ⟨Nat.le_of_ble_eq_true rfl, Nat.le_of_ble_eq_true rfl⟩) (gv_preV hK hnw hP hD (ci := 7) rfl 0 rfl) rfl rfl hl.1 rfl (lv_room (Nat.le_of_ble_eq_true rfl)) dX7_load_11 ⟨Nat.zero_le _, Nat.zero_le _⟩) hS hFc (fun r_19 u_20 H locs h hP1 hD1 hk1 hS => ?_)
    have hP := hP1
    have hD := hD1.weaken (fun _ _ _ z => hFc _ z)
    exact W.iret (v := r_19) hx hb hr (fun t ht hW => ⟨⟨r_19, u_20, rfl, h, by rw [ht]; exact hP, va_K.moved hW.alike hK, hD⟩, hS.F ht⟩) hS.2.2 dX7_load_14
/-! X7_changes -/
def wp_X7_changes (S0 : St) (x1 : Int32) (x2 : Int32) (Q : St → Prop) : Prop := vp_in x1 6 ∧ (vp_in x2 6 ∧ (vp_in x1 6 ∧ (∀ S_1, S_1 = (sA S0 28 x1.toNatClampNeg (S0.2 28 x2.toNatClampNeg)) → (vp_in x2 6 ∧ (∀ S_3, S_3 = (sA S_1 28 x2.toNatClampNeg (S0.2 28 x1.toNatClampNeg)) → (Q S_3))))))
abbrev rmX7_changes : Room := { frames := 0, cells := 0, slots := 0, locals := 0 }
set_option maxRecDepth 100000 in
set_option maxHeartbeats 4000000 in
theorem c_X7_changes (l : Launch) (D : va_G) (k : Nat → ClassId) (a : Nat → Nat) (S0 : St) (sz : Nat) (x1 : Int32) (x2 : Int32) (Q : St → Prop) (h : wp_X7_changes S0 x1 x2 Q) : Met l yX7_changes wsX7_changes rmX7_changes (cPc D k (wMo k a S0) [.ref (a 0), .int x1, .int x2] sz) (va_Qv (fun (u : St) => Q u) (cB D k (va_A (wMo k a S0) sz) (fun u : St => wMo k a u)) (va_A (wMo k a S0) sz)) 0 0 (va_A (wMo k a S0) sz) := by
  refine ct_entry (cc := cX7_changes) (maxL := 4) (ret := none) (Rn := RX7) (Qc := fun A => (va_Qv (fun (u : St) => Q u) (cB D k A (fun u : St => wMo k a u)) A)) (by decide) rfl rfl (Nat.le_of_ble_eq_true rfl) ?_
  intro p e s m below meth c hx hb hr hlocks hml hts hown hnw hK A hA H locs hP hD hS ls hl
  have hl : lv_has ls 4 [(0, .ref (a 0)), (1, .int x1), (2, .int x2)] := hl
  have ln_61 := hts (.fieldLink RX7 61 "WithTheSameOneModel" "order" "[I") (by decide +kernel)
  have in_Mo : ∀ w ∈ wsX70, w ∈ wsX7_changes := fun _ h => List.mem_cons_of_mem _ (List.mem_append_right _ h)
  unfold wp_X7_changes at h
  refine lv_aload_n hx hb dX7_changes_0 rfl (lv_at hl 0 rfl) ?_
  refine va_get (D := D) (ci := 7) (v := .ref (a 18)) (C := RX7) (T := TX7) (N := 33) hx hb hts in_Mo hown hK hP 0 rfl rfl 28 (by decide) ln_61 (fun _ h9 => h9) rfl dX7_changes_1 ?_
  refine lv_iload_n hx hb dX7_changes_4 rfl (lv_at hl 1 rfl) ?_
  refine va_iald hx hb hK hP 18 0 rfl rfl h.1 dX7_changes_5 ?_
  have h := h.2
  refine lv_istore_n (lv' := [(3, .int (S0.2 28 x1.toNatClampNeg)), (0, .ref (a 0)), (1, .int x1), (2, .int x2)]) hx hb dX7_changes_6 rfl hl (by decide) rfl (fun ls hl => ?_)
  refine lv_aload_n hx hb dX7_changes_7 rfl (lv_at hl 1 rfl) ?_
  refine va_get (D := D) (ci := 7) (v := .ref (a 18)) (C := RX7) (T := TX7) (N := 33) hx hb hts in_Mo hown hK hP 0 rfl rfl 28 (by decide) ln_61 (fun _ h9 => h9) rfl dX7_changes_8 ?_
  refine lv_iload_n hx hb dX7_changes_11 rfl (lv_at hl 2 rfl) ?_
  refine lv_aload_n hx hb dX7_changes_12 rfl (lv_at hl 1 rfl) ?_
  refine va_get (D := D) (ci := 7) (v := .ref (a 18)) (C := RX7) (T := TX7) (N := 33) hx hb hts in_Mo hown hK hP 0 rfl rfl 28 (by decide) ln_61 (fun _ h9 => h9) rfl dX7_changes_13 ?_
  refine lv_iload_n hx hb dX7_changes_16 rfl (lv_at hl 3 rfl) ?_
  refine va_iald hx hb hK hP 18 0 rfl rfl h.1 dX7_changes_17 ?_
  have h := h.2
  refine va_iast hx hb hK hP hD hS 18 0 rfl rfl h.1 dX7_changes_18 (fun H locs hP hD hS => ?_)
  have h := h.2
  obtain ⟨S_1, e_2⟩ : ∃ z : St, z = (sA S0 28 x1.toNatClampNeg (S0.2 28 x2.toNatClampNeg)) := ⟨_, rfl⟩
  have h := h S_1 e_2
  have hP : va_P D vwCl (wMo k a S_1) H := by rw [e_2]; exact hP
  have hD : va_D A (wMo k a S_1) := by rw [e_2]; exact hD
  refine lv_aload_n hx hb dX7_changes_19 rfl (lv_at hl 1 rfl) ?_
  refine va_get (D := D) (ci := 7) (v := .ref (a 18)) (C := RX7) (T := TX7) (N := 33) hx hb hts in_Mo hown hK hP 0 rfl rfl 28 (by decide) ln_61 (fun _ h9 => h9) rfl dX7_changes_20 ?_
  refine lv_iload_n hx hb dX7_changes_23 rfl (lv_at hl 3 rfl) ?_
  refine lv_iload_n hx hb dX7_changes_24 rfl (lv_at hl 0 rfl) ?_
  refine va_iast hx hb hK hP hD hS 18 0 rfl rfl h.1 dX7_changes_25 (fun H locs hP hD hS => ?_)
  have h := h.2
  obtain ⟨S_3, e_4⟩ : ∃ z : St, z = (sA S_1 28 x2.toNatClampNeg (S0.2 28 x1.toNatClampNeg)) := ⟨_, rfl⟩
  have h := h S_3 e_4
  have hP : va_P D vwCl (wMo k a S_3) H := by rw [e_4]; exact hP
  have hD : va_D A (wMo k a S_3) := by rw [e_4]; exact hD
  exact W.vret hx hb hr (fun t ht hW => ⟨⟨S_3, rfl, h, by rw [ht]; exact hP, va_K.moved hW.alike hK, hD⟩, hS.F ht⟩) hS.2.2 dX7_changes_26
/-! X7_nextOrder -/
def wp_X7_nextOrder_86 (Q : Int32 → St → Prop) : Nat → St → Int32 → Int32 → Prop
  | 0, _, _, _ => False
  | n + 1, S0, x3, x4 => ((x4 ≤ x3) → (Q (1 : Int32) S0)) ∧ ((¬ x4 ≤ x3) → (wp_X7_changes S0 x3 x4 (fun u_8 => wp_X7_nextOrder_86 Q n u_8 (x3 + 1) (x4 + (-1)))))
def wp_X7_nextOrder_47 (Q : Int32 → St → Prop) : Nat → St → Int32 → Int32 → Prop
  | 0, _, _, _ => False
  | n + 1, S0, x1, x2 => vp_in x2 6 ∧ (vp_in x1 6 ∧ ((((S0.2 28 x1.toNatClampNeg) ≤ (S0.2 28 x2.toNatClampNeg)) → (wp_X7_changes S0 x1 x2 (fun u_5 => ∃ i, wp_X7_nextOrder_86 Q i u_5 (x1 + (1 : Int32)) ((u_5.1 29) - (1 : Int32))))) ∧ ((¬ (S0.2 28 x1.toNatClampNeg) ≤ (S0.2 28 x2.toNatClampNeg)) → (wp_X7_nextOrder_47 Q n S0 x1 (x2 + (-1))))))
def wp_X7_nextOrder_34 (Q : Int32 → St → Prop) (S0 : St) (x1 : Int32) : Prop := ((0 ≤ x1) → (∃ i, wp_X7_nextOrder_47 Q i S0 x1 ((S0.1 29) - (1 : Int32)))) ∧ ((¬ 0 ≤ x1) → (Q (0 : Int32) S0))
def wp_X7_nextOrder_7 (Q : Int32 → St → Prop) : Nat → St → Int32 → Prop
  | 0, _, _ => False
  | n + 1, S0, x1 => ((x1 < 0) → (wp_X7_nextOrder_34 Q S0 x1)) ∧ ((¬ x1 < 0) → (vp_in x1 6 ∧ (vp_in (x1 + (1 : Int32)) 6 ∧ ((((S0.2 28 x1.toNatClampNeg) ≤ (S0.2 28 (x1 + (1 : Int32)).toNatClampNeg)) → (wp_X7_nextOrder_34 Q S0 x1)) ∧ ((¬ (S0.2 28 x1.toNatClampNeg) ≤ (S0.2 28 (x1 + (1 : Int32)).toNatClampNeg)) → (wp_X7_nextOrder_7 Q n S0 (x1 + (-1))))))))
def wp_X7_nextOrder (S0 : St) (Q : Int32 → St → Prop) : Prop := ∃ i, wp_X7_nextOrder_7 Q i S0 ((S0.1 29) - (2 : Int32))
abbrev rmX7_nextOrder : Room := { frames := 1, cells := 0, slots := 0, locals := 23 }
set_option maxRecDepth 100000 in
set_option maxHeartbeats 4000000 in
theorem c_X7_nextOrder (l : Launch) (D : va_G) (k : Nat → ClassId) (a : Nat → Nat) (S0 : St) (sz : Nat) (Q : Int32 → St → Prop) (h : wp_X7_nextOrder S0 Q) : Met l yX7_nextOrder wsX7_nextOrder rmX7_nextOrder (cPc D k (wMo k a S0) [.ref (a 0)] sz) (va_Qi (fun (r : Int32) (u : St) => Q r u) (cB D k (va_A (wMo k a S0) sz) (fun u : St => wMo k a u)) (va_A (wMo k a S0) sz)) 0 0 (va_A (wMo k a S0) sz) := by
  refine ct_entry (cc := cX7_nextOrder) (maxL := 5) (ret := (some .boolean)) (Rn := RX7) (Qc := fun A => (va_Qi (fun (r : Int32) (u : St) => Q r u) (cB D k A (fun u : St => wMo k a u)) A)) (by decide) rfl rfl (Nat.le_of_ble_eq_true rfl) ?_
  intro p e s m below meth c hx hb hr hlocks hml hts hown hnw hK A hA H locs hP hD hS ls hl
  have hl : lv_has ls 5 [(0, .ref (a 0))] := hl
  have ln_231 := hts (.fieldLink RX7 231 "WithTheSameOneModel" "rowMany" "I") (by decide +kernel)
  have ln_61 := hts (.fieldLink RX7 61 "WithTheSameOneModel" "order" "[I") (by decide +kernel)
  have in_Mo : ∀ w ∈ wsX70, w ∈ wsX7_nextOrder := fun _ h => List.mem_cons_of_mem _ (List.mem_append_right _ h)
  have L_86 : ∀ (n : Nat), ∀ (S0 : St) (x3 : Int32) (x4 : Int32), ∀ (H : Heap) (locs : List Loc) (ls : Array Slot), va_P D vwCl (wMo k a S0) H → va_D A (wMo k a S0) → va_S A s.heap H locs → lv_has ls 5 [(0, .ref (a 0)), (3, .int x3), (4, .int x4)] → wp_X7_nextOrder_86 Q n S0 x3 x4 → W p l e rmX7_nextOrder s m ([.ref (a 0)] : List Value).toArray below meth c H locs 0 0 (MQ below (va_Qi (fun (r : Int32) (u : St) => Q r u) (cB D k A (fun u : St => wMo k a u)) A) ([.ref (a 0)] : List Value).toArray s 0 0 A) (F0 m 86 ls []) := by
    intro n
    induction n with
    | zero => intro S0 x3 x4 H locs ls hP hD hS hl h; exact absurd h (by unfold wp_X7_nextOrder_86; exact id)
    | succ n ih =>
      intro S0 x3 x4 H locs ls hP hD hS hl h
      unfold wp_X7_nextOrder_86 at h
      refine lv_iload_n hx hb dX7_nextOrder_86 rfl (lv_at hl 1 rfl) ?_
      refine lv_iload hx hb dX7_nextOrder_87 (lv_at hl 2 rfl) ?_
      refine lv_icmp_ge (tgt := 108) hx hb dX7_nextOrder_89 (by decide) (fun c_6 => ?_) (fun c_6 => ?_)
      · have h := h.1 c_6
        refine lv_iconst (v := (1 : Int32)) hx hb dX7_nextOrder_108 (by decide) ?_
        exact W.zret (v := (1 : Int32)) hx hb hr rfl (fun t ht hW => ⟨⟨(1 : Int32), S0, rfl, h, by rw [ht]; exact hP, va_K.moved hW.alike hK, hD⟩, hS.F ht⟩) hS.2.2 dX7_nextOrder_109
      · have h := h.2 c_6
        refine lv_aload_n hx hb dX7_nextOrder_92 rfl (lv_at hl 0 rfl) ?_
        refine lv_iload_n hx hb dX7_nextOrder_93 rfl (lv_at hl 1 rfl) ?_
        refine lv_iload hx hb dX7_nextOrder_94 (lv_at hl 2 rfl) ?_
        have hFc := fr_self hD hS hA
        refine gv_v (va_runV (As := [.int x3, .int x4]) (rest := []) ⟨hx, hb, hml, hown, hts⟩ (c_X7_changes l D k a S0 H.size x3 x4 _ h) (cwV 2 hts gX7_nextOrder_X7_changes rfl rfl rfl (by decide +kernel) ⟨Nat.le_of_ble_eq_true rfl, Nat.le_of_ble_eq_true rfl⟩) (gv_preV hK hnw hP hD (ci := 7) rfl 0 rfl) rfl rfl hl.1 rfl (lv_room (Nat.le_of_ble_eq_true rfl)) dX7_nextOrder_96 ⟨Nat.zero_le _, Nat.zero_le _⟩) hS hFc (fun u_8 H locs h hP1 hD1 hk1 hS => ?_)
        have hP := hP1
        have hD := hD1.weaken (fun _ _ _ z => hFc _ z)
        refine lv_iinc (v := (x3 + 1)) (lv' := [(3, .int (x3 + 1)), (0, .ref (a 0)), (4, .int x4)]) hx hb dX7_nextOrder_99 hl (k := 1) rfl rfl (by decide) rfl (fun ls hl => ?_)
        refine lv_iinc (v := (x4 + (-1))) (lv' := [(4, .int (x4 + (-1))), (3, .int (x3 + 1)), (0, .ref (a 0))]) hx hb dX7_nextOrder_102 hl (k := 2) rfl rfl (by decide) rfl (fun ls hl => ?_)
        refine lv_goto (tgt := 86) hx hb dX7_nextOrder_105 (by decide) ?_
        exact ih u_8 (x3 + 1) (x4 + (-1)) H locs ls hP hD hS (lv_sub hl [2, 1, 0] rfl) h
  have L_47 : ∀ (n : Nat), ∀ (S0 : St) (x1 : Int32) (x2 : Int32), ∀ (H : Heap) (locs : List Loc) (ls : Array Slot), va_P D vwCl (wMo k a S0) H → va_D A (wMo k a S0) → va_S A s.heap H locs → lv_has ls 5 [(0, .ref (a 0)), (1, .int x1), (2, .int x2)] → wp_X7_nextOrder_47 Q n S0 x1 x2 → W p l e rmX7_nextOrder s m ([.ref (a 0)] : List Value).toArray below meth c H locs 0 0 (MQ below (va_Qi (fun (r : Int32) (u : St) => Q r u) (cB D k A (fun u : St => wMo k a u)) A) ([.ref (a 0)] : List Value).toArray s 0 0 A) (F0 m 47 ls []) := by
    intro n
    induction n with
    | zero => intro S0 x1 x2 H locs ls hP hD hS hl h; exact absurd h (by unfold wp_X7_nextOrder_47; exact id)
    | succ n ih =>
      intro S0 x1 x2 H locs ls hP hD hS hl h
      unfold wp_X7_nextOrder_47 at h
      refine lv_aload_n hx hb dX7_nextOrder_47 rfl (lv_at hl 0 rfl) ?_
      refine va_get (D := D) (ci := 7) (v := .ref (a 18)) (C := RX7) (T := TX7) (N := 33) hx hb hts in_Mo hown hK hP 0 rfl rfl 28 (by decide) ln_61 (fun _ h9 => h9) rfl dX7_nextOrder_48 ?_
      refine lv_iload_n hx hb dX7_nextOrder_51 rfl (lv_at hl 2 rfl) ?_
      refine va_iald hx hb hK hP 18 0 rfl rfl h.1 dX7_nextOrder_52 ?_
      have h := h.2
      refine lv_aload_n hx hb dX7_nextOrder_53 rfl (lv_at hl 0 rfl) ?_
      refine va_get (D := D) (ci := 7) (v := .ref (a 18)) (C := RX7) (T := TX7) (N := 33) hx hb hts in_Mo hown hK hP 0 rfl rfl 28 (by decide) ln_61 (fun _ h9 => h9) rfl dX7_nextOrder_54 ?_
      refine lv_iload_n hx hb dX7_nextOrder_57 rfl (lv_at hl 1 rfl) ?_
      refine va_iald hx hb hK hP 18 0 rfl rfl h.1 dX7_nextOrder_58 ?_
      have h := h.2
      refine lv_icmp_ge (tgt := 68) hx hb dX7_nextOrder_59 (by decide) (fun c_3 => ?_) (fun c_3 => ?_)
      · have h := h.1 c_3
        refine lv_aload_n hx hb dX7_nextOrder_68 rfl (lv_at hl 0 rfl) ?_
        refine lv_iload_n hx hb dX7_nextOrder_69 rfl (lv_at hl 1 rfl) ?_
        refine lv_iload_n hx hb dX7_nextOrder_70 rfl (lv_at hl 2 rfl) ?_
        have hFc := fr_self hD hS hA
        refine gv_v (va_runV (As := [.int x1, .int x2]) (rest := []) ⟨hx, hb, hml, hown, hts⟩ (c_X7_changes l D k a S0 H.size x1 x2 _ h) (cwV 2 hts gX7_nextOrder_X7_changes rfl rfl rfl (by decide +kernel) ⟨Nat.le_of_ble_eq_true rfl, Nat.le_of_ble_eq_true rfl⟩) (gv_preV hK hnw hP hD (ci := 7) rfl 0 rfl) rfl rfl hl.1 rfl (lv_room (Nat.le_of_ble_eq_true rfl)) dX7_nextOrder_71 ⟨Nat.zero_le _, Nat.zero_le _⟩) hS hFc (fun u_5 H locs h hP1 hD1 hk1 hS => ?_)
        have hP := hP1
        have hD := hD1.weaken (fun _ _ _ z => hFc _ z)
        refine lv_iload_n hx hb dX7_nextOrder_74 rfl (lv_at hl 1 rfl) ?_
        refine lv_iconst (v := (1 : Int32)) hx hb dX7_nextOrder_75 (by decide) ?_
        refine lv_iadd hx hb dX7_nextOrder_76 ?_
        refine lv_istore_n (lv' := [(3, .int (x1 + (1 : Int32))), (0, .ref (a 0)), (1, .int x1), (2, .int x2)]) hx hb dX7_nextOrder_77 rfl hl (by decide) rfl (fun ls hl => ?_)
        refine lv_aload_n hx hb dX7_nextOrder_78 rfl (lv_at hl 1 rfl) ?_
        refine va_get (D := D) (ci := 7) (v := .int (u_5.1 29)) (C := RX7) (T := TX7) (N := 33) hx hb hts in_Mo hown hK hP 0 rfl rfl 29 (by decide) ln_231 (fun _ h9 => h9) rfl dX7_nextOrder_79 ?_
        refine lv_iconst (v := (1 : Int32)) hx hb dX7_nextOrder_82 (by decide) ?_
        refine lv_isub hx hb dX7_nextOrder_83 ?_
        refine lv_istore (lv' := [(4, .int ((u_5.1 29) - (1 : Int32))), (3, .int (x1 + (1 : Int32))), (0, .ref (a 0)), (1, .int x1), (2, .int x2)]) hx hb dX7_nextOrder_84 hl (by decide) rfl (fun ls hl => ?_)
        obtain ⟨n_9, h⟩ := h
        exact L_86 n_9 u_5 (x1 + (1 : Int32)) ((u_5.1 29) - (1 : Int32)) H locs ls hP hD hS (lv_sub hl [2, 1, 0] rfl) h
      · have h := h.2 c_3
        refine lv_iinc (v := (x2 + (-1))) (lv' := [(2, .int (x2 + (-1))), (0, .ref (a 0)), (1, .int x1)]) hx hb dX7_nextOrder_62 hl (k := 2) rfl rfl (by decide) rfl (fun ls hl => ?_)
        refine lv_goto (tgt := 47) hx hb dX7_nextOrder_65 (by decide) ?_
        exact ih S0 x1 (x2 + (-1)) H locs ls hP hD hS (lv_sub hl [1, 2, 0] rfl) h
  have L_34 : ∀ (S0 : St) (x1 : Int32), ∀ (H : Heap) (locs : List Loc) (ls : Array Slot), va_P D vwCl (wMo k a S0) H → va_D A (wMo k a S0) → va_S A s.heap H locs → lv_has ls 5 [(0, .ref (a 0)), (1, .int x1)] → wp_X7_nextOrder_34 Q S0 x1 → W p l e rmX7_nextOrder s m ([.ref (a 0)] : List Value).toArray below meth c H locs 0 0 (MQ below (va_Qi (fun (r : Int32) (u : St) => Q r u) (cB D k A (fun u : St => wMo k a u)) A) ([.ref (a 0)] : List Value).toArray s 0 0 A) (F0 m 34 ls []) := by
    intro S0 x1 H locs ls hP hD hS hl h
    unfold wp_X7_nextOrder_34 at h
    refine lv_iload_n hx hb dX7_nextOrder_34 rfl (lv_at hl 1 rfl) ?_
    refine lv_if_ge (tgt := 40) hx hb dX7_nextOrder_35 (by decide) (fun c_2 => ?_) (fun c_2 => ?_)
    · have h := h.1 c_2
      refine lv_aload_n hx hb dX7_nextOrder_40 rfl (lv_at hl 0 rfl) ?_
      refine va_get (D := D) (ci := 7) (v := .int (S0.1 29)) (C := RX7) (T := TX7) (N := 33) hx hb hts in_Mo hown hK hP 0 rfl rfl 29 (by decide) ln_231 (fun _ h9 => h9) rfl dX7_nextOrder_41 ?_
      refine lv_iconst (v := (1 : Int32)) hx hb dX7_nextOrder_44 (by decide) ?_
      refine lv_isub hx hb dX7_nextOrder_45 ?_
      refine lv_istore_n (lv' := [(2, .int ((S0.1 29) - (1 : Int32))), (0, .ref (a 0)), (1, .int x1)]) hx hb dX7_nextOrder_46 rfl hl (by decide) rfl (fun ls hl => ?_)
      obtain ⟨n_10, h⟩ := h
      exact L_47 n_10 S0 x1 ((S0.1 29) - (1 : Int32)) H locs ls hP hD hS (lv_sub hl [1, 2, 0] rfl) h
    · have h := h.2 c_2
      refine lv_iconst (v := (0 : Int32)) hx hb dX7_nextOrder_38 (by decide) ?_
      exact W.zret (v := (0 : Int32)) hx hb hr rfl (fun t ht hW => ⟨⟨(0 : Int32), S0, rfl, h, by rw [ht]; exact hP, va_K.moved hW.alike hK, hD⟩, hS.F ht⟩) hS.2.2 dX7_nextOrder_39
  have L_7 : ∀ (n : Nat), ∀ (S0 : St) (x1 : Int32), ∀ (H : Heap) (locs : List Loc) (ls : Array Slot), va_P D vwCl (wMo k a S0) H → va_D A (wMo k a S0) → va_S A s.heap H locs → lv_has ls 5 [(0, .ref (a 0)), (1, .int x1)] → wp_X7_nextOrder_7 Q n S0 x1 → W p l e rmX7_nextOrder s m ([.ref (a 0)] : List Value).toArray below meth c H locs 0 0 (MQ below (va_Qi (fun (r : Int32) (u : St) => Q r u) (cB D k A (fun u : St => wMo k a u)) A) ([.ref (a 0)] : List Value).toArray s 0 0 A) (F0 m 7 ls []) := by
    intro n
    induction n with
    | zero => intro S0 x1 H locs ls hP hD hS hl h; exact absurd h (by unfold wp_X7_nextOrder_7; exact id)
    | succ n ih =>
      intro S0 x1 H locs ls hP hD hS hl h
      unfold wp_X7_nextOrder_7 at h
      refine lv_iload_n hx hb dX7_nextOrder_7 rfl (lv_at hl 1 rfl) ?_
      refine lv_if_lt (tgt := 34) hx hb dX7_nextOrder_8 (by decide) (fun c_1 => ?_) (fun c_1 => ?_)
      · have h := h.1 c_1
        exact L_34 S0 x1 H locs ls hP hD hS (lv_sub hl [0, 1] rfl) h
      · have h := h.2 c_1
        refine lv_aload_n hx hb dX7_nextOrder_11 rfl (lv_at hl 0 rfl) ?_
        refine va_get (D := D) (ci := 7) (v := .ref (a 18)) (C := RX7) (T := TX7) (N := 33) hx hb hts in_Mo hown hK hP 0 rfl rfl 28 (by decide) ln_61 (fun _ h9 => h9) rfl dX7_nextOrder_12 ?_
        refine lv_iload_n hx hb dX7_nextOrder_15 rfl (lv_at hl 1 rfl) ?_
        refine va_iald hx hb hK hP 18 0 rfl rfl h.1 dX7_nextOrder_16 ?_
        have h := h.2
        refine lv_aload_n hx hb dX7_nextOrder_17 rfl (lv_at hl 0 rfl) ?_
        refine va_get (D := D) (ci := 7) (v := .ref (a 18)) (C := RX7) (T := TX7) (N := 33) hx hb hts in_Mo hown hK hP 0 rfl rfl 28 (by decide) ln_61 (fun _ h9 => h9) rfl dX7_nextOrder_18 ?_
        refine lv_iload_n hx hb dX7_nextOrder_21 rfl (lv_at hl 1 rfl) ?_
        refine lv_iconst (v := (1 : Int32)) hx hb dX7_nextOrder_22 (by decide) ?_
        refine lv_iadd hx hb dX7_nextOrder_23 ?_
        refine va_iald hx hb hK hP 18 0 rfl rfl h.1 dX7_nextOrder_24 ?_
        have h := h.2
        refine lv_icmp_le (tgt := 34) hx hb dX7_nextOrder_25 (by decide) (fun c_11 => ?_) (fun c_11 => ?_)
        · have h := h.1 c_11
          exact L_34 S0 x1 H locs ls hP hD hS (lv_sub hl [0, 1] rfl) h
        · have h := h.2 c_11
          refine lv_iinc (v := (x1 + (-1))) (lv' := [(1, .int (x1 + (-1))), (0, .ref (a 0))]) hx hb dX7_nextOrder_28 hl (k := 1) rfl rfl (by decide) rfl (fun ls hl => ?_)
          refine lv_goto (tgt := 7) hx hb dX7_nextOrder_31 (by decide) ?_
          exact ih S0 (x1 + (-1)) H locs ls hP hD hS (lv_sub hl [1, 0] rfl) h
  unfold wp_X7_nextOrder at h
  refine lv_aload_n hx hb dX7_nextOrder_0 rfl (lv_at hl 0 rfl) ?_
  refine va_get (D := D) (ci := 7) (v := .int (S0.1 29)) (C := RX7) (T := TX7) (N := 33) hx hb hts in_Mo hown hK hP 0 rfl rfl 29 (by decide) ln_231 (fun _ h9 => h9) rfl dX7_nextOrder_1 ?_
  refine lv_iconst (v := (2 : Int32)) hx hb dX7_nextOrder_4 (by decide) ?_
  refine lv_isub hx hb dX7_nextOrder_5 ?_
  refine lv_istore_n (lv' := [(1, .int ((S0.1 29) - (2 : Int32))), (0, .ref (a 0))]) hx hb dX7_nextOrder_6 rfl hl (by decide) rfl (fun ls hl => ?_)
  obtain ⟨n_12, h⟩ := h
  exact L_7 n_12 S0 ((S0.1 29) - (2 : Int32)) H locs ls hP hD hS (lv_sub hl [1, 0] rfl) h
/-! X7_cards -/
def wp_X7_cards_59 (K42 : St → Int32 → Int32 → Prop) (Q : Int32 → St → Prop) (S0 : St) (y0 : Int32) (y1 : Int32) : Prop := wp_X7_nextOrder S0 (fun r_7 u_8 => K42 u_8 (y0 + y1) r_7)
def wp_X7_cards_42 (Q : Int32 → St → Prop) : Nat → St → Int32 → Int32 → Prop
  | 0, _, _, _ => False
  | n + 1, S0, x1, x2 => ((x2 = 0) → (Q x1 S0)) ∧ ((¬ x2 = 0) → (wp_X7_judged S0 (fun r_4 u_5 => ((0 ≤ r_4) → (wp_X7_cards_59 (fun s0 v0 v1 => wp_X7_cards_42 Q n s0 v0 v1) Q u_5 x1 (0 : Int32))) ∧ ((¬ 0 ≤ r_4) → (wp_X7_cards_59 (fun s0 v0 v1 => wp_X7_cards_42 Q n s0 v0 v1) Q u_5 x1 (1 : Int32))))))
def wp_X7_cards_17 (Q : Int32 → St → Prop) : Nat → St → Int32 → Prop
  | 0, _, _ => False
  | n + 1, S0, x1 => (((S0.1 29) ≤ x1) → (∃ i, wp_X7_cards_42 Q i S0 (0 : Int32) (1 : Int32))) ∧ ((¬ (S0.1 29) ≤ x1) → (vp_in x1 6 ∧ (∀ S_10, S_10 = (sA S0 28 x1.toNatClampNeg x1) → (wp_X7_cards_17 Q n S_10 (x1 + 1)))))
def wp_X7_cards (S0 : St) (Q : Int32 → St → Prop) : Prop := (((S0.1 29) ≤ (5 : Int32)) → (∃ i, wp_X7_cards_17 Q i S0 (0 : Int32))) ∧ ((¬ (S0.1 29) ≤ (5 : Int32)) → (wp_X7_no S0 (-6 : Int32) (fun r_13 u_14 => Q r_13 u_14)))
abbrev rmX7_cards : Room := { frames := 6, cells := 0, slots := 0, locals := 143 }
set_option maxRecDepth 100000 in
set_option maxHeartbeats 4000000 in
theorem c_X7_cards (l : Launch) (D : va_G) (k : Nat → ClassId) (a : Nat → Nat) (S0 : St) (sz : Nat) (Q : Int32 → St → Prop) (h : wp_X7_cards S0 Q) : Met l yX7_cards wsX7_cards rmX7_cards (cPc D k (wMo k a S0) [.ref (a 0)] sz) (va_Qi (fun (r : Int32) (u : St) => Q r u) (cB D k (va_A (wMo k a S0) sz) (fun u : St => wMo k a u)) (va_A (wMo k a S0) sz)) 0 0 (va_A (wMo k a S0) sz) := by
  refine ct_entry (cc := cX7_cards) (maxL := 3) (ret := (some .int)) (Rn := RX7) (Qc := fun A => (va_Qi (fun (r : Int32) (u : St) => Q r u) (cB D k A (fun u : St => wMo k a u)) A)) (by decide) rfl rfl (Nat.le_of_ble_eq_true rfl) ?_
  intro p e s m below meth c hx hb hr hlocks hml hts hown hnw hK A hA H locs hP hD hS ls hl
  have hl : lv_has ls 3 [(0, .ref (a 0))] := hl
  have ln_231 := hts (.fieldLink RX7 231 "WithTheSameOneModel" "rowMany" "I") (by decide +kernel)
  have ln_61 := hts (.fieldLink RX7 61 "WithTheSameOneModel" "order" "[I") (by decide +kernel)
  have in_Mo : ∀ w ∈ wsX70, w ∈ wsX7_cards := fun _ h => List.mem_cons_of_mem _ (List.mem_append_right _ h)
  have L_59 : ∀ (K42 : St → Int32 → Int32 → Prop), (∀ (S0 : St) (x1 : Int32) (x2 : Int32), ∀ (H : Heap) (locs : List Loc) (ls : Array Slot), va_P D vwCl (wMo k a S0) H → va_D A (wMo k a S0) → va_S A s.heap H locs → lv_has ls 3 [(0, .ref (a 0)), (1, .int x1), (2, .int x2)] → K42 S0 x1 x2 → W p l e rmX7_cards s m ([.ref (a 0)] : List Value).toArray below meth c H locs 0 0 (MQ below (va_Qi (fun (r : Int32) (u : St) => Q r u) (cB D k A (fun u : St => wMo k a u)) A) ([.ref (a 0)] : List Value).toArray s 0 0 A) (F0 m 42 ls [])) → ∀ (S0 : St) (y0 : Int32) (y1 : Int32), ∀ (H : Heap) (locs : List Loc) (ls : Array Slot), va_P D vwCl (wMo k a S0) H → va_D A (wMo k a S0) → va_S A s.heap H locs → lv_has ls 3 [(0, .ref (a 0))] → wp_X7_cards_59 K42 Q S0 y0 y1 → W p l e rmX7_cards s m ([.ref (a 0)] : List Value).toArray below meth c H locs 0 0 (MQ below (va_Qi (fun (r : Int32) (u : St) => Q r u) (cB D k A (fun u : St => wMo k a u)) A) ([.ref (a 0)] : List Value).toArray s 0 0 A) (F0 m 59 ls [.int y1, .int y0]) := by
    intro K42 hK42 S0 y0 y1 H locs ls hP hD hS hl h
    unfold wp_X7_cards_59 at h
    refine lv_iadd hx hb dX7_cards_59 ?_
    refine lv_istore_n (lv' := [(1, .int (y0 + y1)), (0, .ref (a 0))]) hx hb dX7_cards_60 rfl hl (by decide) rfl (fun ls hl => ?_)
    refine lv_aload_n hx hb dX7_cards_61 rfl (lv_at hl 1 rfl) ?_
    have hFc := fr_self hD hS hA
    refine gv_i (va_runV (As := []) (rest := []) ⟨hx, hb, hml, hown, hts⟩ (c_X7_nextOrder l D k a S0 H.size _ h) (cwV 0 hts gX7_cards_X7_nextOrder rfl rfl rfl (by decide +kernel) ⟨Nat.le_of_ble_eq_true rfl, Nat.le_of_ble_eq_true rfl⟩) (gv_preV hK hnw hP hD (ci := 7) rfl 0 rfl) rfl rfl hl.1 rfl (lv_room (Nat.le_of_ble_eq_true rfl)) dX7_cards_62 ⟨Nat.zero_le _, Nat.zero_le _⟩) hS hFc (fun r_7 u_8 H locs h hP1 hD1 hk1 hS => ?_)
    have hP := hP1
    have hD := hD1.weaken (fun _ _ _ z => hFc _ z)
    refine lv_istore_n (lv' := [(2, .int r_7), (1, .int (y0 + y1)), (0, .ref (a 0))]) hx hb dX7_cards_65 rfl hl (by decide) rfl (fun ls hl => ?_)
    refine lv_goto (tgt := 42) hx hb dX7_cards_66 (by decide) ?_
    exact hK42 u_8 (y0 + y1) r_7 H locs ls hP hD hS (lv_sub hl [2, 1, 0] rfl) h
  have L_42 : ∀ (n : Nat), ∀ (S0 : St) (x1 : Int32) (x2 : Int32), ∀ (H : Heap) (locs : List Loc) (ls : Array Slot), va_P D vwCl (wMo k a S0) H → va_D A (wMo k a S0) → va_S A s.heap H locs → lv_has ls 3 [(0, .ref (a 0)), (1, .int x1), (2, .int x2)] → wp_X7_cards_42 Q n S0 x1 x2 → W p l e rmX7_cards s m ([.ref (a 0)] : List Value).toArray below meth c H locs 0 0 (MQ below (va_Qi (fun (r : Int32) (u : St) => Q r u) (cB D k A (fun u : St => wMo k a u)) A) ([.ref (a 0)] : List Value).toArray s 0 0 A) (F0 m 42 ls []) := by
    intro n
    induction n with
    | zero => intro S0 x1 x2 H locs ls hP hD hS hl h; exact absurd h (by unfold wp_X7_cards_42; exact id)
    | succ n ih =>
      intro S0 x1 x2 H locs ls hP hD hS hl h
      unfold wp_X7_cards_42 at h
      refine lv_iload_n hx hb dX7_cards_42 rfl (lv_at hl 2 rfl) ?_
      refine lv_if_eq (tgt := 69) hx hb dX7_cards_43 (by decide) (fun c_3 => ?_) (fun c_3 => ?_)
      · have h := h.1 c_3
        refine lv_iload_n hx hb dX7_cards_69 rfl (lv_at hl 1 rfl) ?_
        exact W.iret (v := x1) hx hb hr (fun t ht hW => ⟨⟨x1, S0, rfl, h, by rw [ht]; exact hP, va_K.moved hW.alike hK, hD⟩, hS.F ht⟩) hS.2.2 dX7_cards_70
      · have h := h.2 c_3
        refine lv_iload_n hx hb dX7_cards_46 rfl (lv_at hl 1 rfl) ?_
        refine lv_aload_n hx hb dX7_cards_47 rfl (lv_at hl 0 rfl) ?_
        have hFc := fr_self hD hS hA
        refine gv_i (va_runV (As := []) (rest := [.int x1]) ⟨hx, hb, hml, hown, hts⟩ (c_X7_judged l D k a S0 H.size _ h) (cwV 0 hts gX7_cards_X7_judged rfl rfl rfl (by decide +kernel) ⟨Nat.le_of_ble_eq_true rfl, Nat.le_of_ble_eq_true rfl⟩) (gv_preV hK hnw hP hD (ci := 7) rfl 0 rfl) rfl rfl hl.1 rfl (lv_room (Nat.le_of_ble_eq_true rfl)) dX7_cards_48 ⟨Nat.zero_le _, Nat.zero_le _⟩) hS hFc (fun r_4 u_5 H locs h hP1 hD1 hk1 hS => ?_)
        have hP := hP1
        have hD := hD1.weaken (fun _ _ _ z => hFc _ z)
        refine lv_if_ge (tgt := 58) hx hb dX7_cards_51 (by decide) (fun c_6 => ?_) (fun c_6 => ?_)
        · have h := h.1 c_6
          refine lv_iconst (v := (0 : Int32)) hx hb dX7_cards_58 (by decide) ?_
          exact L_59 (fun s0 v0 v1 => wp_X7_cards_42 Q n s0 v0 v1) ih u_5 x1 (0 : Int32) H locs ls hP hD hS (lv_sub hl [0] rfl) h
        · have h := h.2 c_6
          refine lv_iconst (v := (1 : Int32)) hx hb dX7_cards_54 (by decide) ?_
          refine lv_goto (tgt := 59) hx hb dX7_cards_55 (by decide) ?_
          exact L_59 (fun s0 v0 v1 => wp_X7_cards_42 Q n s0 v0 v1) ih u_5 x1 (1 : Int32) H locs ls hP hD hS (lv_sub hl [0] rfl) h
  have L_17 : ∀ (n : Nat), ∀ (S0 : St) (x1 : Int32), ∀ (H : Heap) (locs : List Loc) (ls : Array Slot), va_P D vwCl (wMo k a S0) H → va_D A (wMo k a S0) → va_S A s.heap H locs → lv_has ls 3 [(0, .ref (a 0)), (1, .int x1)] → wp_X7_cards_17 Q n S0 x1 → W p l e rmX7_cards s m ([.ref (a 0)] : List Value).toArray below meth c H locs 0 0 (MQ below (va_Qi (fun (r : Int32) (u : St) => Q r u) (cB D k A (fun u : St => wMo k a u)) A) ([.ref (a 0)] : List Value).toArray s 0 0 A) (F0 m 17 ls []) := by
    intro n
    induction n with
    | zero => intro S0 x1 H locs ls hP hD hS hl h; exact absurd h (by unfold wp_X7_cards_17; exact id)
    | succ n ih =>
      intro S0 x1 H locs ls hP hD hS hl h
      unfold wp_X7_cards_17 at h
      refine lv_iload_n hx hb dX7_cards_17 rfl (lv_at hl 1 rfl) ?_
      refine lv_aload_n hx hb dX7_cards_18 rfl (lv_at hl 0 rfl) ?_
      refine va_get (D := D) (ci := 7) (v := .int (S0.1 29)) (C := RX7) (T := TX7) (N := 33) hx hb hts in_Mo hown hK hP 0 rfl rfl 29 (by decide) ln_231 (fun _ h9 => h9) rfl dX7_cards_19 ?_
      refine lv_icmp_ge (tgt := 38) hx hb dX7_cards_22 (by decide) (fun c_2 => ?_) (fun c_2 => ?_)
      · have h := h.1 c_2
        refine lv_iconst (v := (0 : Int32)) hx hb dX7_cards_38 (by decide) ?_
        refine lv_istore_n (lv' := [(1, .int (0 : Int32)), (0, .ref (a 0))]) hx hb dX7_cards_39 rfl hl (by decide) rfl (fun ls hl => ?_)
        refine lv_iconst (v := (1 : Int32)) hx hb dX7_cards_40 (by decide) ?_
        refine lv_istore_n (lv' := [(2, .int (1 : Int32)), (1, .int (0 : Int32)), (0, .ref (a 0))]) hx hb dX7_cards_41 rfl hl (by decide) rfl (fun ls hl => ?_)
        obtain ⟨n_9, h⟩ := h
        exact L_42 n_9 S0 (0 : Int32) (1 : Int32) H locs ls hP hD hS (lv_sub hl [2, 1, 0] rfl) h
      · have h := h.2 c_2
        refine lv_aload_n hx hb dX7_cards_25 rfl (lv_at hl 0 rfl) ?_
        refine va_get (D := D) (ci := 7) (v := .ref (a 18)) (C := RX7) (T := TX7) (N := 33) hx hb hts in_Mo hown hK hP 0 rfl rfl 28 (by decide) ln_61 (fun _ h9 => h9) rfl dX7_cards_26 ?_
        refine lv_iload_n hx hb dX7_cards_29 rfl (lv_at hl 1 rfl) ?_
        refine lv_iload_n hx hb dX7_cards_30 rfl (lv_at hl 1 rfl) ?_
        refine va_iast hx hb hK hP hD hS 18 0 rfl rfl h.1 dX7_cards_31 (fun H locs hP hD hS => ?_)
        have h := h.2
        obtain ⟨S_10, e_11⟩ : ∃ z : St, z = (sA S0 28 x1.toNatClampNeg x1) := ⟨_, rfl⟩
        have h := h S_10 e_11
        have hP : va_P D vwCl (wMo k a S_10) H := by rw [e_11]; exact hP
        have hD : va_D A (wMo k a S_10) := by rw [e_11]; exact hD
        refine lv_iinc (v := (x1 + 1)) (lv' := [(1, .int (x1 + 1)), (0, .ref (a 0))]) hx hb dX7_cards_32 hl (k := 1) rfl rfl (by decide) rfl (fun ls hl => ?_)
        refine lv_goto (tgt := 17) hx hb dX7_cards_35 (by decide) ?_
        exact ih S_10 (x1 + 1) H locs ls hP hD hS (lv_sub hl [1, 0] rfl) h
  unfold wp_X7_cards at h
  refine lv_aload_n hx hb dX7_cards_0 rfl (lv_at hl 0 rfl) ?_
  refine va_get (D := D) (ci := 7) (v := .int (S0.1 29)) (C := RX7) (T := TX7) (N := 33) hx hb hts in_Mo hown hK hP 0 rfl rfl 29 (by decide) ln_231 (fun _ h9 => h9) rfl dX7_cards_1 ?_
  refine lv_iconst (v := (5 : Int32)) hx hb dX7_cards_4 (by decide) ?_
  refine lv_icmp_le (tgt := 15) hx hb dX7_cards_5 (by decide) (fun c_1 => ?_) (fun c_1 => ?_)
  · have h := h.1 c_1
    refine lv_iconst (v := (0 : Int32)) hx hb dX7_cards_15 (by decide) ?_
    refine lv_istore_n (lv' := [(1, .int (0 : Int32)), (0, .ref (a 0))]) hx hb dX7_cards_16 rfl hl (by decide) rfl (fun ls hl => ?_)
    obtain ⟨n_12, h⟩ := h
    exact L_17 n_12 S0 (0 : Int32) H locs ls hP hD hS (lv_sub hl [1, 0] rfl) h
  · have h := h.2 c_1
    refine lv_aload_n hx hb dX7_cards_8 rfl (lv_at hl 0 rfl) ?_
    refine lv_bipush (v := (-6 : Int32)) hx hb dX7_cards_9 (by decide) ?_
    have hFc := fr_self hD hS hA
    refine gv_i (va_runV (As := [.int (-6 : Int32)]) (rest := []) ⟨hx, hb, hml, hown, hts⟩ (c_X7_no l D k a S0 H.size (-6 : Int32) _ h) (cwV 1 hts gX7_cards_X7_no rfl rfl rfl (by decide +kernel) ⟨Nat.le_of_ble_eq_true rfl, Nat.le_of_ble_eq_true rfl⟩) (gv_preV hK hnw hP hD (ci := 7) rfl 0 rfl) rfl rfl hl.1 rfl (lv_room (Nat.le_of_ble_eq_true rfl)) dX7_cards_11 ⟨Nat.zero_le _, Nat.zero_le _⟩) hS hFc (fun r_13 u_14 H locs h hP1 hD1 hk1 hS => ?_)
    have hP := hP1
    have hD := hD1.weaken (fun _ _ _ z => hFc _ z)
    exact W.iret (v := r_13) hx hb hr (fun t ht hW => ⟨⟨r_13, u_14, rfl, h, by rw [ht]; exact hP, va_K.moved hW.alike hK, hD⟩, hS.F ht⟩) hS.2.2 dX7_cards_14
/-! X7_seeds -/
def wp_X7_seeds_44 (x1 : Int32) (x2 : Int32) (Q : Int32 → St → Prop) : Nat → St → Int32 → Int32 → Prop
  | 0, _, _, _ => False
  | n + 1, S0, x4, x5 => ((x1 ≤ x5) → (wp_X7_pairsDanced S0 (fun r_7 u_8 => wp_X7_passesAll u_8 (1 : Int32) (0 : Int32) (fun u_10 => Q r_7 u_10)))) ∧ ((¬ x1 ≤ x5) → (∀ z_11 : Int32, z_11 = ((x4 * (1103515245 : Int32)) + (12345 : Int32)) → ((¬ (S0.1 5) = 0) ∧ (∀ z_13 : Int32, z_13 = (((z_11 &&& (2147483647 : Int32)) / (65536 : Int32)) - ((z_11 &&& (2147483647 : Int32)) / (65536 : Int32)) / (S0.1 5) * (S0.1 5)) → (∀ z_15 : Int32, z_15 = ((z_11 * (1103515245 : Int32)) + (12345 : Int32)) → ((¬ (S0.1 5) = 0) ∧ (∀ z_17 : Int32, z_17 = (((z_15 &&& (2147483647 : Int32)) / (65536 : Int32)) - ((z_15 &&& (2147483647 : Int32)) / (65536 : Int32)) / (S0.1 5) * (S0.1 5)) → (((z_13 = z_17) → (wp_X7_seeds_44 x1 x2 Q n S0 z_15 (x5 + 1))) ∧ ((¬ z_13 = z_17) → (wp_X7_mayDance S0 z_13 z_17 (fun r_20 u_21 => ((r_20 = 0) → (wp_X7_seeds_44 x1 x2 Q n u_21 z_15 (x5 + 1))) ∧ ((¬ r_20 = 0) → (wp_X7_dancesByLeast u_21 z_13 z_17 (fun u_24 => wp_X7_seeds_44 x1 x2 Q n u_24 z_15 (x5 + 1)))))))))))))))
def wp_X7_seeds_22 (x1 : Int32) (x2 : Int32) (Q : Int32 → St → Prop) (S0 : St) (x3 : Int32) : Prop := ((x3 = 0) → (wp_X7_passesAll S0 (1 : Int32) (1 : Int32) (fun u_5 => ∃ i, wp_X7_seeds_44 x1 x2 Q i u_5 x2 (0 : Int32)))) ∧ ((¬ x3 = 0) → (wp_X7_no S0 x3 (fun r_26 u_27 => Q r_26 u_27)))
def wp_X7_seeds (S0 : St) (x1 : Int32) (x2 : Int32) (Q : Int32 → St → Prop) : Prop := wp_X7_bound x1 (1 : Int32) (40 : Int32) (fun r_1 => ((¬ r_1 = 0) → (wp_X7_seeds_22 x1 x2 Q S0 r_1)) ∧ ((r_1 = 0) → (((¬ (S0.1 5) = 0) → (wp_X7_seeds_22 x1 x2 Q S0 r_1)) ∧ (((S0.1 5) = 0) → (wp_X7_seeds_22 x1 x2 Q S0 (-3 : Int32))))))
abbrev rmX7_seeds : Room := { frames := 5, cells := 0, slots := 0, locals := 119 }
set_option maxRecDepth 100000 in
set_option maxHeartbeats 4000000 in
theorem c_X7_seeds (l : Launch) (D : va_G) (k : Nat → ClassId) (a : Nat → Nat) (S0 : St) (sz : Nat) (x1 : Int32) (x2 : Int32) (Q : Int32 → St → Prop) (h : wp_X7_seeds S0 x1 x2 Q) : Met l yX7_seeds wsX7_seeds rmX7_seeds (cPc D k (wMo k a S0) [.ref (a 0), .int x1, .int x2] sz) (va_Qi (fun (r : Int32) (u : St) => Q r u) (cB D k (va_A (wMo k a S0) sz) (fun u : St => wMo k a u)) (va_A (wMo k a S0) sz)) 0 0 (va_A (wMo k a S0) sz) := by
  refine ct_entry (cc := cX7_seeds) (maxL := 8) (ret := (some .int)) (Rn := RX7) (Qc := fun A => (va_Qi (fun (r : Int32) (u : St) => Q r u) (cB D k A (fun u : St => wMo k a u)) A)) (by decide) rfl rfl (Nat.le_of_ble_eq_true rfl) ?_
  intro p e s m below meth c hx hb hr hlocks hml hts hown hnw hK A hA H locs hP hD hS ls hl
  have hl : lv_has ls 8 [(0, .ref (a 0)), (1, .int x1), (2, .int x2)] := hl
  have lc_255 := hts (.constant RX7 255 (1103515245)) (by decide +kernel)
  have lc_256 := hts (.constant RX7 256 (2147483647)) (by decide +kernel)
  have lc_257 := hts (.constant RX7 257 (65536)) (by decide +kernel)
  have ln_70 := hts (.fieldLink RX7 70 "WithTheSameOneModel" "dancers" "I") (by decide +kernel)
  have in_Mo : ∀ w ∈ wsX70, w ∈ wsX7_seeds := fun _ h => List.mem_cons_of_mem _ (List.mem_append_right _ h)
  have L_44 : ∀ (n : Nat), ∀ (S0 : St) (x4 : Int32) (x5 : Int32), ∀ (H : Heap) (locs : List Loc) (ls : Array Slot), va_P D vwCl (wMo k a S0) H → va_D A (wMo k a S0) → va_S A s.heap H locs → lv_has ls 8 [(0, .ref (a 0)), (1, .int x1), (4, .int x4), (5, .int x5)] → wp_X7_seeds_44 x1 x2 Q n S0 x4 x5 → W p l e rmX7_seeds s m ([.ref (a 0), .int x1, .int x2] : List Value).toArray below meth c H locs 0 0 (MQ below (va_Qi (fun (r : Int32) (u : St) => Q r u) (cB D k A (fun u : St => wMo k a u)) A) ([.ref (a 0), .int x1, .int x2] : List Value).toArray s 0 0 A) (F0 m 44 ls []) := by
    intro n
    induction n with
    | zero => intro S0 x4 x5 H locs ls hP hD hS hl h; exact absurd h (by unfold wp_X7_seeds_44; exact id)
    | succ n ih =>
      intro S0 x4 x5 H locs ls hP hD hS hl h
      unfold wp_X7_seeds_44 at h
      refine lv_iload hx hb dX7_seeds_44 (lv_at hl 3 rfl) ?_
      refine lv_iload_n hx hb dX7_seeds_46 rfl (lv_at hl 1 rfl) ?_
      refine lv_icmp_ge (tgt := 138) hx hb dX7_seeds_47 (by decide) (fun c_6 => ?_) (fun c_6 => ?_)
      · have h := h.1 c_6
        refine lv_aload_n hx hb dX7_seeds_138 rfl (lv_at hl 0 rfl) ?_
        have hFc := fr_self hD hS hA
        refine gv_i (va_runV (As := []) (rest := []) ⟨hx, hb, hml, hown, hts⟩ (c_X7_pairsDanced l D k a S0 H.size _ h) (cwV 0 hts gX7_seeds_X7_pairsDanced rfl rfl rfl (by decide +kernel) ⟨Nat.le_of_ble_eq_true rfl, Nat.le_of_ble_eq_true rfl⟩) (gv_preV hK hnw hP hD (ci := 7) rfl 0 rfl) rfl rfl hl.1 rfl (lv_room (Nat.le_of_ble_eq_true rfl)) dX7_seeds_139 ⟨Nat.zero_le _, Nat.zero_le _⟩) hS hFc (fun r_7 u_8 H locs h hP1 hD1 hk1 hS => ?_)
        have hP := hP1
        have hD := hD1.weaken (fun _ _ _ z => hFc _ z)
        refine lv_istore (lv' := [(5, .int r_7), (0, .ref (a 0)), (1, .int x1), (4, .int x4)]) hx hb dX7_seeds_142 hl (by decide) rfl (fun ls hl => ?_)
        refine lv_aload_n hx hb dX7_seeds_144 rfl (lv_at hl 1 rfl) ?_
        refine lv_iconst (v := (1 : Int32)) hx hb dX7_seeds_145 (by decide) ?_
        refine lv_iconst (v := (0 : Int32)) hx hb dX7_seeds_146 (by decide) ?_
        have hFc := fr_self hD hS hA
        refine gv_v (va_runV (As := [.int (1 : Int32), .int (0 : Int32)]) (rest := []) ⟨hx, hb, hml, hown, hts⟩ (c_X7_passesAll l D k a u_8 H.size (1 : Int32) (0 : Int32) _ h) (cwV 2 hts gX7_seeds_X7_passesAll rfl rfl rfl (by decide +kernel) ⟨Nat.le_of_ble_eq_true rfl, Nat.le_of_ble_eq_true rfl⟩) (gv_preV hK hnw hP hD (ci := 7) rfl 0 rfl) rfl rfl hl.1 rfl (lv_room (Nat.le_of_ble_eq_true rfl)) dX7_seeds_147 ⟨Nat.zero_le _, Nat.zero_le _⟩) hS hFc (fun u_10 H locs h hP1 hD1 hk1 hS => ?_)
        have hP := hP1
        have hD := hD1.weaken (fun _ _ _ z => hFc _ z)
        refine lv_iload hx hb dX7_seeds_150 (lv_at hl 0 rfl) ?_
        exact W.iret (v := r_7) hx hb hr (fun t ht hW => ⟨⟨r_7, u_10, rfl, h, by rw [ht]; exact hP, va_K.moved hW.alike hK, hD⟩, hS.F ht⟩) hS.2.2 dX7_seeds_152
      · have h := h.2 c_6
        refine lv_iload hx hb dX7_seeds_50 (lv_at hl 2 rfl) ?_
        refine lv_ldc (v := (1103515245 : Int32)) hx hb hown lc_255 dX7_seeds_52 ?_
        refine lv_imul hx hb dX7_seeds_54 ?_
        refine lv_sipush (v := (12345 : Int32)) hx hb dX7_seeds_55 (by decide) ?_
        refine lv_iadd hx hb dX7_seeds_58 ?_
        refine lv_topi (fun z_11 e_12 => ?_)
        have h := h z_11 e_12
        refine lv_istore (lv' := [(4, .int z_11), (0, .ref (a 0)), (1, .int x1), (5, .int x5)]) hx hb dX7_seeds_59 hl (by decide) rfl (fun ls hl => ?_)
        refine lv_iload hx hb dX7_seeds_61 (lv_at hl 0 rfl) ?_
        refine lv_ldcw (v := (2147483647 : Int32)) hx hb hown lc_256 dX7_seeds_63 ?_
        refine lv_iand hx hb dX7_seeds_66 ?_
        refine lv_ldcw (v := (65536 : Int32)) hx hb hown lc_257 dX7_seeds_67 ?_
        refine lv_idiv hx hb dX7_seeds_70 (by decide) ?_
        refine lv_aload_n hx hb dX7_seeds_71 rfl (lv_at hl 1 rfl) ?_
        refine va_get (D := D) (ci := 7) (v := .int (S0.1 5)) (C := RX7) (T := TX7) (N := 33) hx hb hts in_Mo hown hK hP 0 rfl rfl 5 (by decide) ln_70 (fun _ h9 => h9) rfl dX7_seeds_72 ?_
        refine lv_irem hx hb dX7_seeds_75 h.1 ?_
        have h := h.2
        refine lv_topi (fun z_13 e_14 => ?_)
        have h := h z_13 e_14
        refine lv_istore (lv' := [(6, .int z_13), (4, .int z_11), (0, .ref (a 0)), (1, .int x1), (5, .int x5)]) hx hb dX7_seeds_76 hl (by decide) rfl (fun ls hl => ?_)
        refine lv_iload hx hb dX7_seeds_78 (lv_at hl 1 rfl) ?_
        refine lv_ldc (v := (1103515245 : Int32)) hx hb hown lc_255 dX7_seeds_80 ?_
        refine lv_imul hx hb dX7_seeds_82 ?_
        refine lv_sipush (v := (12345 : Int32)) hx hb dX7_seeds_83 (by decide) ?_
        refine lv_iadd hx hb dX7_seeds_86 ?_
        refine lv_topi (fun z_15 e_16 => ?_)
        have h := h z_15 e_16
        refine lv_istore (lv' := [(4, .int z_15), (6, .int z_13), (0, .ref (a 0)), (1, .int x1), (5, .int x5)]) hx hb dX7_seeds_87 hl (by decide) rfl (fun ls hl => ?_)
        refine lv_iload hx hb dX7_seeds_89 (lv_at hl 0 rfl) ?_
        refine lv_ldcw (v := (2147483647 : Int32)) hx hb hown lc_256 dX7_seeds_91 ?_
        refine lv_iand hx hb dX7_seeds_94 ?_
        refine lv_ldcw (v := (65536 : Int32)) hx hb hown lc_257 dX7_seeds_95 ?_
        refine lv_idiv hx hb dX7_seeds_98 (by decide) ?_
        refine lv_aload_n hx hb dX7_seeds_99 rfl (lv_at hl 2 rfl) ?_
        refine va_get (D := D) (ci := 7) (v := .int (S0.1 5)) (C := RX7) (T := TX7) (N := 33) hx hb hts in_Mo hown hK hP 0 rfl rfl 5 (by decide) ln_70 (fun _ h9 => h9) rfl dX7_seeds_100 ?_
        refine lv_irem hx hb dX7_seeds_103 h.1 ?_
        have h := h.2
        refine lv_topi (fun z_17 e_18 => ?_)
        have h := h z_17 e_18
        refine lv_istore (lv' := [(7, .int z_17), (4, .int z_15), (6, .int z_13), (0, .ref (a 0)), (1, .int x1), (5, .int x5)]) hx hb dX7_seeds_104 hl (by decide) rfl (fun ls hl => ?_)
        refine lv_iload hx hb dX7_seeds_106 (lv_at hl 2 rfl) ?_
        refine lv_iload hx hb dX7_seeds_108 (lv_at hl 0 rfl) ?_
        refine lv_icmp_eq (tgt := 132) hx hb dX7_seeds_110 (by decide) (fun c_19 => ?_) (fun c_19 => ?_)
        · have h := h.1 c_19
          refine lv_iinc (v := (x5 + 1)) (lv' := [(5, .int (x5 + 1)), (7, .int z_17), (4, .int z_15), (6, .int z_13), (0, .ref (a 0)), (1, .int x1)]) hx hb dX7_seeds_132 hl (k := 5) rfl rfl (by decide) rfl (fun ls hl => ?_)
          refine lv_goto (tgt := 44) hx hb dX7_seeds_135 (by decide) ?_
          exact ih S0 z_15 (x5 + 1) H locs ls hP hD hS (lv_sub hl [4, 5, 2, 0] rfl) h
        · have h := h.2 c_19
          refine lv_aload_n hx hb dX7_seeds_113 rfl (lv_at hl 3 rfl) ?_
          refine lv_iload hx hb dX7_seeds_114 (lv_at hl 2 rfl) ?_
          refine lv_iload hx hb dX7_seeds_116 (lv_at hl 0 rfl) ?_
          have hFc := fr_self hD hS hA
          refine gv_i (va_runV (As := [.int z_13, .int z_17]) (rest := []) ⟨hx, hb, hml, hown, hts⟩ (c_X7_mayDance l D k a S0 H.size z_13 z_17 _ h) (cwV 2 hts gX7_seeds_X7_mayDance rfl rfl rfl (by decide +kernel) ⟨Nat.le_of_ble_eq_true rfl, Nat.le_of_ble_eq_true rfl⟩) (gv_preV hK hnw hP hD (ci := 7) rfl 0 rfl) rfl rfl hl.1 rfl (lv_room (Nat.le_of_ble_eq_true rfl)) dX7_seeds_118 ⟨Nat.zero_le _, Nat.zero_le _⟩) hS hFc (fun r_20 u_21 H locs h hP1 hD1 hk1 hS => ?_)
          have hP := hP1
          have hD := hD1.weaken (fun _ _ _ z => hFc _ z)
          refine lv_if_eq (tgt := 132) hx hb dX7_seeds_121 (by decide) (fun c_22 => ?_) (fun c_22 => ?_)
          · have h := h.1 c_22
            refine lv_iinc (v := (x5 + 1)) (lv' := [(5, .int (x5 + 1)), (7, .int z_17), (4, .int z_15), (6, .int z_13), (0, .ref (a 0)), (1, .int x1)]) hx hb dX7_seeds_132 hl (k := 5) rfl rfl (by decide) rfl (fun ls hl => ?_)
            refine lv_goto (tgt := 44) hx hb dX7_seeds_135 (by decide) ?_
            exact ih u_21 z_15 (x5 + 1) H locs ls hP hD hS (lv_sub hl [4, 5, 2, 0] rfl) h
          · have h := h.2 c_22
            refine lv_aload_n hx hb dX7_seeds_124 rfl (lv_at hl 3 rfl) ?_
            refine lv_iload hx hb dX7_seeds_125 (lv_at hl 2 rfl) ?_
            refine lv_iload hx hb dX7_seeds_127 (lv_at hl 0 rfl) ?_
            have hFc := fr_self hD hS hA
            refine gv_v (va_runV (As := [.int z_13, .int z_17]) (rest := []) ⟨hx, hb, hml, hown, hts⟩ (c_X7_dancesByLeast l D k a u_21 H.size z_13 z_17 _ h) (cwV 2 hts gX7_seeds_X7_dancesByLeast rfl rfl rfl (by decide +kernel) ⟨Nat.le_of_ble_eq_true rfl, Nat.le_of_ble_eq_true rfl⟩) (gv_preV hK hnw hP hD (ci := 7) rfl 0 rfl) rfl rfl hl.1 rfl (lv_room (Nat.le_of_ble_eq_true rfl)) dX7_seeds_129 ⟨Nat.zero_le _, Nat.zero_le _⟩) hS hFc (fun u_24 H locs h hP1 hD1 hk1 hS => ?_)
            have hP := hP1
            have hD := hD1.weaken (fun _ _ _ z => hFc _ z)
            refine lv_iinc (v := (x5 + 1)) (lv' := [(5, .int (x5 + 1)), (7, .int z_17), (4, .int z_15), (6, .int z_13), (0, .ref (a 0)), (1, .int x1)]) hx hb dX7_seeds_132 hl (k := 5) rfl rfl (by decide) rfl (fun ls hl => ?_)
            refine lv_goto (tgt := 44) hx hb dX7_seeds_135 (by decide) ?_
            exact ih u_24 z_15 (x5 + 1) H locs ls hP hD hS (lv_sub hl [4, 5, 2, 0] rfl) h
  have L_22 : ∀ (S0 : St) (x3 : Int32), ∀ (H : Heap) (locs : List Loc) (ls : Array Slot), va_P D vwCl (wMo k a S0) H → va_D A (wMo k a S0) → va_S A s.heap H locs → lv_has ls 8 [(0, .ref (a 0)), (1, .int x1), (2, .int x2), (3, .int x3)] → wp_X7_seeds_22 x1 x2 Q S0 x3 → W p l e rmX7_seeds s m ([.ref (a 0), .int x1, .int x2] : List Value).toArray below meth c H locs 0 0 (MQ below (va_Qi (fun (r : Int32) (u : St) => Q r u) (cB D k A (fun u : St => wMo k a u)) A) ([.ref (a 0), .int x1, .int x2] : List Value).toArray s 0 0 A) (F0 m 22 ls []) := by
    intro S0 x3 H locs ls hP hD hS hl h
    unfold wp_X7_seeds_22 at h
    refine lv_iload_n hx hb dX7_seeds_22 rfl (lv_at hl 3 rfl) ?_
    refine lv_if_eq (tgt := 32) hx hb dX7_seeds_23 (by decide) (fun c_3 => ?_) (fun c_3 => ?_)
    · have h := h.1 c_3
      refine lv_aload_n hx hb dX7_seeds_32 rfl (lv_at hl 0 rfl) ?_
      refine lv_iconst (v := (1 : Int32)) hx hb dX7_seeds_33 (by decide) ?_
      refine lv_iconst (v := (1 : Int32)) hx hb dX7_seeds_34 (by decide) ?_
      have hFc := fr_self hD hS hA
      refine gv_v (va_runV (As := [.int (1 : Int32), .int (1 : Int32)]) (rest := []) ⟨hx, hb, hml, hown, hts⟩ (c_X7_passesAll l D k a S0 H.size (1 : Int32) (1 : Int32) _ h) (cwV 2 hts gX7_seeds_X7_passesAll rfl rfl rfl (by decide +kernel) ⟨Nat.le_of_ble_eq_true rfl, Nat.le_of_ble_eq_true rfl⟩) (gv_preV hK hnw hP hD (ci := 7) rfl 0 rfl) rfl rfl hl.1 rfl (lv_room (Nat.le_of_ble_eq_true rfl)) dX7_seeds_35 ⟨Nat.zero_le _, Nat.zero_le _⟩) hS hFc (fun u_5 H locs h hP1 hD1 hk1 hS => ?_)
      have hP := hP1
      have hD := hD1.weaken (fun _ _ _ z => hFc _ z)
      refine lv_iload_n hx hb dX7_seeds_38 rfl (lv_at hl 2 rfl) ?_
      refine lv_istore (lv' := [(4, .int x2), (0, .ref (a 0)), (1, .int x1), (2, .int x2), (3, .int x3)]) hx hb dX7_seeds_39 hl (by decide) rfl (fun ls hl => ?_)
      refine lv_iconst (v := (0 : Int32)) hx hb dX7_seeds_41 (by decide) ?_
      refine lv_istore (lv' := [(5, .int (0 : Int32)), (4, .int x2), (0, .ref (a 0)), (1, .int x1), (2, .int x2), (3, .int x3)]) hx hb dX7_seeds_42 hl (by decide) rfl (fun ls hl => ?_)
      obtain ⟨n_25, h⟩ := h
      exact L_44 n_25 u_5 x2 (0 : Int32) H locs ls hP hD hS (lv_sub hl [2, 3, 1, 0] rfl) h
    · have h := h.2 c_3
      refine lv_aload_n hx hb dX7_seeds_26 rfl (lv_at hl 0 rfl) ?_
      refine lv_iload_n hx hb dX7_seeds_27 rfl (lv_at hl 3 rfl) ?_
      have hFc := fr_self hD hS hA
      refine gv_i (va_runV (As := [.int x3]) (rest := []) ⟨hx, hb, hml, hown, hts⟩ (c_X7_no l D k a S0 H.size x3 _ h) (cwV 1 hts gX7_seeds_X7_no rfl rfl rfl (by decide +kernel) ⟨Nat.le_of_ble_eq_true rfl, Nat.le_of_ble_eq_true rfl⟩) (gv_preV hK hnw hP hD (ci := 7) rfl 0 rfl) rfl rfl hl.1 rfl (lv_room (Nat.le_of_ble_eq_true rfl)) dX7_seeds_28 ⟨Nat.zero_le _, Nat.zero_le _⟩) hS hFc (fun r_26 u_27 H locs h hP1 hD1 hk1 hS => ?_)
      have hP := hP1
      have hD := hD1.weaken (fun _ _ _ z => hFc _ z)
      exact W.iret (v := r_26) hx hb hr (fun t ht hW => ⟨⟨r_26, u_27, rfl, h, by rw [ht]; exact hP, va_K.moved hW.alike hK, hD⟩, hS.F ht⟩) hS.2.2 dX7_seeds_31
  unfold wp_X7_seeds at h
  refine lv_iload_n hx hb dX7_seeds_0 rfl (lv_at hl 1 rfl) ?_
  refine lv_iconst (v := (1 : Int32)) hx hb dX7_seeds_1 (by decide) ?_
  refine lv_bipush (v := (40 : Int32)) hx hb dX7_seeds_2 (by decide) ?_
  refine gs_i (va_runS (As := [.int x1, .int (1 : Int32), .int (40 : Int32)]) (rest := []) ⟨hx, hb, hml, hown, hts⟩ (c_X7_bound l x1 (1 : Int32) (40 : Int32) _ h) (va_cwS 3 hts gX7_seeds_X7_bound rfl rfl rfl (by decide +kernel) ⟨Nat.le_of_ble_eq_true rfl, Nat.le_of_ble_eq_true rfl⟩) preEq rfl rfl hl.1 rfl (lv_room (Nat.le_of_ble_eq_true rfl)) dX7_seeds_4 ⟨Nat.zero_le _, Nat.zero_le _⟩) (fun r_1 h => ?_)
  refine lv_istore_n (lv' := [(3, .int r_1), (0, .ref (a 0)), (1, .int x1), (2, .int x2)]) hx hb dX7_seeds_7 rfl hl (by decide) rfl (fun ls hl => ?_)
  refine lv_iload_n hx hb dX7_seeds_8 rfl (lv_at hl 0 rfl) ?_
  refine lv_if_ne (tgt := 22) hx hb dX7_seeds_9 (by decide) (fun c_2 => ?_) (fun c_2 => ?_)
  · have h := h.1 c_2
    exact L_22 S0 r_1 H locs ls hP hD hS (lv_sub hl [1, 2, 3, 0] rfl) h
  · have h := h.2 c_2
    refine lv_aload_n hx hb dX7_seeds_12 rfl (lv_at hl 1 rfl) ?_
    refine va_get (D := D) (ci := 7) (v := .int (S0.1 5)) (C := RX7) (T := TX7) (N := 33) hx hb hts in_Mo hown hK hP 0 rfl rfl 5 (by decide) ln_70 (fun _ h9 => h9) rfl dX7_seeds_13 ?_
    refine lv_if_ne (tgt := 22) hx hb dX7_seeds_16 (by decide) (fun c_28 => ?_) (fun c_28 => ?_)
    · have h := h.1 c_28
      exact L_22 S0 r_1 H locs ls hP hD hS (lv_sub hl [1, 2, 3, 0] rfl) h
    · have h := h.2 c_28
      refine lv_bipush (v := (-3 : Int32)) hx hb dX7_seeds_19 (by decide) ?_
      refine lv_istore_n (lv' := [(3, .int (-3 : Int32)), (0, .ref (a 0)), (1, .int x1), (2, .int x2)]) hx hb dX7_seeds_21 rfl hl (by decide) rfl (fun ls hl => ?_)
      exact L_22 S0 (-3 : Int32) H locs ls hP hD hS (lv_sub hl [1, 2, 3, 0] rfl) h
/-! X7_count -/
def wp_X7_count_91 (K80 : St → Int32 → Int32 → Prop) (x1 : Int32) (Q : Int32 → St → Prop) : Nat → St → Int32 → Int32 → Int32 → Prop
  | 0, _, _, _, _ => False
  | n + 1, S0, x2, x3, x4 => ((x3 ≤ x4) → (K80 S0 x2 (x3 + 1))) ∧ ((¬ x3 ≤ x4) → (wp_X7_mayDance S0 x3 x4 (fun r_10 u_11 => ((r_10 = 0) → (wp_X7_count_91 K80 x1 Q n u_11 (x2 + (0 : Int32)) x3 (x4 + 1))) ∧ ((¬ r_10 = 0) → (wp_X7_count_91 K80 x1 Q n u_11 (x2 + (1 : Int32)) x3 (x4 + 1))))))
def wp_X7_count_80 (x1 : Int32) (Q : Int32 → St → Prop) : Nat → St → Int32 → Int32 → Prop
  | 0, _, _, _ => False
  | n + 1, S0, x2, x3 => (((S0.1 5) ≤ x3) → (Q x2 S0)) ∧ ((¬ (S0.1 5) ≤ x3) → (∃ i, wp_X7_count_91 (fun s0 v0 v1 => wp_X7_count_80 x1 Q n s0 v0 v1) x1 Q i S0 x2 x3 (0 : Int32)))
def wp_X7_count_136 (x1 : Int32) (Q : Int32 → St → Prop) : Nat → St → Int32 → Int32 → Prop
  | 0, _, _, _ => False
  | n + 1, S0, x2, x3 => (((S0.1 5) ≤ x3) → (Q x2 S0)) ∧ ((¬ (S0.1 5) ≤ x3) → (vp_in x3 8 ∧ (wp_X7_count_136 x1 Q n S0 (x2 + (S0.2 3 x3.toNatClampNeg)) (x3 + 1))))
def wp_X7_count (S0 : St) (x1 : Int32) (Q : Int32 → St → Prop) : Prop := wp_X7_isIn x1 (11 : Int32) (16 : Int32) (fun r_1 => ((r_1 = 0) → ((x1 = (0 : Int32) → (Q (S0.1 5) S0)) ∧ (¬ x1 = (0 : Int32) → ((x1 = (1 : Int32) → (wp_X7_pairsDanced S0 (fun r_5 u_6 => Q r_5 u_6))) ∧ (¬ x1 = (1 : Int32) → ((x1 = (2 : Int32) → (∃ i, wp_X7_count_80 x1 Q i S0 (0 : Int32) (0 : Int32))) ∧ (¬ x1 = (2 : Int32) → ((x1 = (3 : Int32) → (Q (S0.1 6) S0)) ∧ (¬ x1 = (3 : Int32) → ((x1 = (4 : Int32) → (∃ i, wp_X7_count_136 x1 Q i S0 (0 : Int32) (0 : Int32))) ∧ (¬ x1 = (4 : Int32) → ((x1 = (5 : Int32) → (Q (S0.1 12) S0)) ∧ (¬ x1 = (5 : Int32) → ((x1 = (6 : Int32) → (Q (S0.1 29) S0)) ∧ (¬ x1 = (6 : Int32) → (Q (-9 : Int32) S0)))))))))))))))) ∧ ((¬ r_1 = 0) → (vp_in (x1 - (10 : Int32)) 7 ∧ (Q (S0.2 0 (x1 - (10 : Int32)).toNatClampNeg) S0))))
abbrev rmX7_count : Room := { frames := 4, cells := 0, slots := 0, locals := 94 }
set_option maxRecDepth 100000 in
set_option maxHeartbeats 4000000 in
theorem c_X7_count (l : Launch) (D : va_G) (k : Nat → ClassId) (a : Nat → Nat) (S0 : St) (sz : Nat) (x1 : Int32) (Q : Int32 → St → Prop) (h : wp_X7_count S0 x1 Q) : Met l yX7_count wsX7_count rmX7_count (cPc D k (wMo k a S0) [.ref (a 0), .int x1] sz) (va_Qi (fun (r : Int32) (u : St) => Q r u) (cB D k (va_A (wMo k a S0) sz) (fun u : St => wMo k a u)) (va_A (wMo k a S0) sz)) 0 0 (va_A (wMo k a S0) sz) := by
  refine ct_entry (cc := cX7_count) (maxL := 5) (ret := (some .int)) (Rn := RX7) (Qc := fun A => (va_Qi (fun (r : Int32) (u : St) => Q r u) (cB D k A (fun u : St => wMo k a u)) A)) (by decide) rfl rfl (Nat.le_of_ble_eq_true rfl) ?_
  intro p e s m below meth c hx hb hr hlocks hml hts hown hnw hK A hA H locs hP hD hS ls hl
  have hl : lv_has ls 5 [(0, .ref (a 0)), (1, .int x1)] := hl
  have ln_109 := hts (.fieldLink RX7 109 "WithTheSameOneModel" "law" "I") (by decide +kernel)
  have ln_19 := hts (.fieldLink RX7 19 "WithTheSameOneModel" "brought" "[I") (by decide +kernel)
  have ln_231 := hts (.fieldLink RX7 231 "WithTheSameOneModel" "rowMany" "I") (by decide +kernel)
  have ln_7 := hts (.fieldLink RX7 7 "WithTheSameOneModel" "refused" "[I") (by decide +kernel)
  have ln_70 := hts (.fieldLink RX7 70 "WithTheSameOneModel" "dancers" "I") (by decide +kernel)
  have ln_86 := hts (.fieldLink RX7 86 "WithTheSameOneModel" "taped" "I") (by decide +kernel)
  have in_Mo : ∀ w ∈ wsX70, w ∈ wsX7_count := fun _ h => List.mem_cons_of_mem _ (List.mem_append_right _ h)
  have L_91 : ∀ (K80 : St → Int32 → Int32 → Prop), (∀ (S0 : St) (x2 : Int32) (x3 : Int32), ∀ (H : Heap) (locs : List Loc) (ls : Array Slot), va_P D vwCl (wMo k a S0) H → va_D A (wMo k a S0) → va_S A s.heap H locs → lv_has ls 5 [(0, .ref (a 0)), (2, .int x2), (3, .int x3)] → K80 S0 x2 x3 → W p l e rmX7_count s m ([.ref (a 0), .int x1] : List Value).toArray below meth c H locs 0 0 (MQ below (va_Qi (fun (r : Int32) (u : St) => Q r u) (cB D k A (fun u : St => wMo k a u)) A) ([.ref (a 0), .int x1] : List Value).toArray s 0 0 A) (F0 m 80 ls [])) → ∀ (n : Nat), ∀ (S0 : St) (x2 : Int32) (x3 : Int32) (x4 : Int32), ∀ (H : Heap) (locs : List Loc) (ls : Array Slot), va_P D vwCl (wMo k a S0) H → va_D A (wMo k a S0) → va_S A s.heap H locs → lv_has ls 5 [(0, .ref (a 0)), (2, .int x2), (3, .int x3), (4, .int x4)] → wp_X7_count_91 K80 x1 Q n S0 x2 x3 x4 → W p l e rmX7_count s m ([.ref (a 0), .int x1] : List Value).toArray below meth c H locs 0 0 (MQ below (va_Qi (fun (r : Int32) (u : St) => Q r u) (cB D k A (fun u : St => wMo k a u)) A) ([.ref (a 0), .int x1] : List Value).toArray s 0 0 A) (F0 m 91 ls []) := by
    intro K80 hK80
    intro n
    induction n with
    | zero => intro S0 x2 x3 x4 H locs ls hP hD hS hl h; exact absurd h (by unfold wp_X7_count_91; exact id)
    | succ n ih =>
      intro S0 x2 x3 x4 H locs ls hP hD hS hl h
      unfold wp_X7_count_91 at h
      refine lv_iload hx hb dX7_count_91 (lv_at hl 3 rfl) ?_
      refine lv_iload_n hx hb dX7_count_93 rfl (lv_at hl 2 rfl) ?_
      refine lv_icmp_ge (tgt := 121) hx hb dX7_count_94 (by decide) (fun c_9 => ?_) (fun c_9 => ?_)
      · have h := h.1 c_9
        refine lv_iinc (v := (x3 + 1)) (lv' := [(3, .int (x3 + 1)), (0, .ref (a 0)), (2, .int x2), (4, .int x4)]) hx hb dX7_count_121 hl (k := 2) rfl rfl (by decide) rfl (fun ls hl => ?_)
        refine lv_goto (tgt := 80) hx hb dX7_count_124 (by decide) ?_
        exact hK80 S0 x2 (x3 + 1) H locs ls hP hD hS (lv_sub hl [1, 2, 0] rfl) h
      · have h := h.2 c_9
        refine lv_iload_n hx hb dX7_count_97 rfl (lv_at hl 1 rfl) ?_
        refine lv_aload_n hx hb dX7_count_98 rfl (lv_at hl 0 rfl) ?_
        refine lv_iload_n hx hb dX7_count_99 rfl (lv_at hl 2 rfl) ?_
        refine lv_iload hx hb dX7_count_100 (lv_at hl 3 rfl) ?_
        have hFc := fr_self hD hS hA
        refine gv_i (va_runV (As := [.int x3, .int x4]) (rest := [.int x2]) ⟨hx, hb, hml, hown, hts⟩ (c_X7_mayDance l D k a S0 H.size x3 x4 _ h) (cwV 2 hts gX7_count_X7_mayDance rfl rfl rfl (by decide +kernel) ⟨Nat.le_of_ble_eq_true rfl, Nat.le_of_ble_eq_true rfl⟩) (gv_preV hK hnw hP hD (ci := 7) rfl 0 rfl) rfl rfl hl.1 rfl (lv_room (Nat.le_of_ble_eq_true rfl)) dX7_count_102 ⟨Nat.zero_le _, Nat.zero_le _⟩) hS hFc (fun r_10 u_11 H locs h hP1 hD1 hk1 hS => ?_)
        have hP := hP1
        have hD := hD1.weaken (fun _ _ _ z => hFc _ z)
        refine lv_if_eq (tgt := 112) hx hb dX7_count_105 (by decide) (fun c_12 => ?_) (fun c_12 => ?_)
        · have h := h.1 c_12
          refine lv_iconst (v := (0 : Int32)) hx hb dX7_count_112 (by decide) ?_
          refine lv_iadd hx hb dX7_count_113 ?_
          refine lv_istore_n (lv' := [(2, .int (x2 + (0 : Int32))), (0, .ref (a 0)), (3, .int x3), (4, .int x4)]) hx hb dX7_count_114 rfl hl (by decide) rfl (fun ls hl => ?_)
          refine lv_iinc (v := (x4 + 1)) (lv' := [(4, .int (x4 + 1)), (2, .int (x2 + (0 : Int32))), (0, .ref (a 0)), (3, .int x3)]) hx hb dX7_count_115 hl (k := 3) rfl rfl (by decide) rfl (fun ls hl => ?_)
          refine lv_goto (tgt := 91) hx hb dX7_count_118 (by decide) ?_
          exact ih u_11 (x2 + (0 : Int32)) x3 (x4 + 1) H locs ls hP hD hS (lv_sub hl [2, 1, 3, 0] rfl) h
        · have h := h.2 c_12
          refine lv_iconst (v := (1 : Int32)) hx hb dX7_count_108 (by decide) ?_
          refine lv_goto (tgt := 113) hx hb dX7_count_109 (by decide) ?_
          refine lv_iadd hx hb dX7_count_113 ?_
          refine lv_istore_n (lv' := [(2, .int (x2 + (1 : Int32))), (0, .ref (a 0)), (3, .int x3), (4, .int x4)]) hx hb dX7_count_114 rfl hl (by decide) rfl (fun ls hl => ?_)
          refine lv_iinc (v := (x4 + 1)) (lv' := [(4, .int (x4 + 1)), (2, .int (x2 + (1 : Int32))), (0, .ref (a 0)), (3, .int x3)]) hx hb dX7_count_115 hl (k := 3) rfl rfl (by decide) rfl (fun ls hl => ?_)
          refine lv_goto (tgt := 91) hx hb dX7_count_118 (by decide) ?_
          exact ih u_11 (x2 + (1 : Int32)) x3 (x4 + 1) H locs ls hP hD hS (lv_sub hl [2, 1, 3, 0] rfl) h
  have L_80 : ∀ (n : Nat), ∀ (S0 : St) (x2 : Int32) (x3 : Int32), ∀ (H : Heap) (locs : List Loc) (ls : Array Slot), va_P D vwCl (wMo k a S0) H → va_D A (wMo k a S0) → va_S A s.heap H locs → lv_has ls 5 [(0, .ref (a 0)), (2, .int x2), (3, .int x3)] → wp_X7_count_80 x1 Q n S0 x2 x3 → W p l e rmX7_count s m ([.ref (a 0), .int x1] : List Value).toArray below meth c H locs 0 0 (MQ below (va_Qi (fun (r : Int32) (u : St) => Q r u) (cB D k A (fun u : St => wMo k a u)) A) ([.ref (a 0), .int x1] : List Value).toArray s 0 0 A) (F0 m 80 ls []) := by
    intro n
    induction n with
    | zero => intro S0 x2 x3 H locs ls hP hD hS hl h; exact absurd h (by unfold wp_X7_count_80; exact id)
    | succ n ih =>
      intro S0 x2 x3 H locs ls hP hD hS hl h
      unfold wp_X7_count_80 at h
      refine lv_iload_n hx hb dX7_count_80 rfl (lv_at hl 2 rfl) ?_
      refine lv_aload_n hx hb dX7_count_81 rfl (lv_at hl 0 rfl) ?_
      refine va_get (D := D) (ci := 7) (v := .int (S0.1 5)) (C := RX7) (T := TX7) (N := 33) hx hb hts in_Mo hown hK hP 0 rfl rfl 5 (by decide) ln_70 (fun _ h9 => h9) rfl dX7_count_82 ?_
      refine lv_icmp_ge (tgt := 127) hx hb dX7_count_85 (by decide) (fun c_8 => ?_) (fun c_8 => ?_)
      · have h := h.1 c_8
        refine lv_iload_n hx hb dX7_count_127 rfl (lv_at hl 1 rfl) ?_
        exact W.iret (v := x2) hx hb hr (fun t ht hW => ⟨⟨x2, S0, rfl, h, by rw [ht]; exact hP, va_K.moved hW.alike hK, hD⟩, hS.F ht⟩) hS.2.2 dX7_count_128
      · have h := h.2 c_8
        refine lv_iconst (v := (0 : Int32)) hx hb dX7_count_88 (by decide) ?_
        refine lv_istore (lv' := [(4, .int (0 : Int32)), (0, .ref (a 0)), (2, .int x2), (3, .int x3)]) hx hb dX7_count_89 hl (by decide) rfl (fun ls hl => ?_)
        obtain ⟨n_13, h⟩ := h
        exact L_91 (fun s0 v0 v1 => wp_X7_count_80 x1 Q n s0 v0 v1) ih n_13 S0 x2 x3 (0 : Int32) H locs ls hP hD hS (lv_sub hl [1, 2, 3, 0] rfl) h
  have L_136 : ∀ (n : Nat), ∀ (S0 : St) (x2 : Int32) (x3 : Int32), ∀ (H : Heap) (locs : List Loc) (ls : Array Slot), va_P D vwCl (wMo k a S0) H → va_D A (wMo k a S0) → va_S A s.heap H locs → lv_has ls 5 [(0, .ref (a 0)), (2, .int x2), (3, .int x3)] → wp_X7_count_136 x1 Q n S0 x2 x3 → W p l e rmX7_count s m ([.ref (a 0), .int x1] : List Value).toArray below meth c H locs 0 0 (MQ below (va_Qi (fun (r : Int32) (u : St) => Q r u) (cB D k A (fun u : St => wMo k a u)) A) ([.ref (a 0), .int x1] : List Value).toArray s 0 0 A) (F0 m 136 ls []) := by
    intro n
    induction n with
    | zero => intro S0 x2 x3 H locs ls hP hD hS hl h; exact absurd h (by unfold wp_X7_count_136; exact id)
    | succ n ih =>
      intro S0 x2 x3 H locs ls hP hD hS hl h
      unfold wp_X7_count_136 at h
      refine lv_iload_n hx hb dX7_count_136 rfl (lv_at hl 2 rfl) ?_
      refine lv_aload_n hx hb dX7_count_137 rfl (lv_at hl 0 rfl) ?_
      refine va_get (D := D) (ci := 7) (v := .int (S0.1 5)) (C := RX7) (T := TX7) (N := 33) hx hb hts in_Mo hown hK hP 0 rfl rfl 5 (by decide) ln_70 (fun _ h9 => h9) rfl dX7_count_138 ?_
      refine lv_icmp_ge (tgt := 159) hx hb dX7_count_141 (by decide) (fun c_17 => ?_) (fun c_17 => ?_)
      · have h := h.1 c_17
        refine lv_iload_n hx hb dX7_count_159 rfl (lv_at hl 1 rfl) ?_
        exact W.iret (v := x2) hx hb hr (fun t ht hW => ⟨⟨x2, S0, rfl, h, by rw [ht]; exact hP, va_K.moved hW.alike hK, hD⟩, hS.F ht⟩) hS.2.2 dX7_count_160
      · have h := h.2 c_17
        refine lv_iload_n hx hb dX7_count_144 rfl (lv_at hl 1 rfl) ?_
        refine lv_aload_n hx hb dX7_count_145 rfl (lv_at hl 0 rfl) ?_
        refine va_get (D := D) (ci := 7) (v := .ref (a 4)) (C := RX7) (T := TX7) (N := 33) hx hb hts in_Mo hown hK hP 0 rfl rfl 3 (by decide) ln_19 (fun _ h9 => h9) rfl dX7_count_146 ?_
        refine lv_iload_n hx hb dX7_count_149 rfl (lv_at hl 2 rfl) ?_
        refine va_iald hx hb hK hP 4 0 rfl rfl h.1 dX7_count_150 ?_
        have h := h.2
        refine lv_iadd hx hb dX7_count_151 ?_
        refine lv_istore_n (lv' := [(2, .int (x2 + (S0.2 3 x3.toNatClampNeg))), (0, .ref (a 0)), (3, .int x3)]) hx hb dX7_count_152 rfl hl (by decide) rfl (fun ls hl => ?_)
        refine lv_iinc (v := (x3 + 1)) (lv' := [(3, .int (x3 + 1)), (2, .int (x2 + (S0.2 3 x3.toNatClampNeg))), (0, .ref (a 0))]) hx hb dX7_count_153 hl (k := 2) rfl rfl (by decide) rfl (fun ls hl => ?_)
        refine lv_goto (tgt := 136) hx hb dX7_count_156 (by decide) ?_
        exact ih S0 (x2 + (S0.2 3 x3.toNatClampNeg)) (x3 + 1) H locs ls hP hD hS (lv_sub hl [2, 1, 0] rfl) h
  unfold wp_X7_count at h
  refine lv_iload_n hx hb dX7_count_0 rfl (lv_at hl 1 rfl) ?_
  refine lv_bipush (v := (11 : Int32)) hx hb dX7_count_1 (by decide) ?_
  refine lv_bipush (v := (16 : Int32)) hx hb dX7_count_3 (by decide) ?_
  refine gs_i (va_runS (As := [.int x1, .int (11 : Int32), .int (16 : Int32)]) (rest := []) ⟨hx, hb, hml, hown, hts⟩ (c_X7_isIn l x1 (11 : Int32) (16 : Int32) _ h) (va_cwS 3 hts gX7_count_X7_isIn rfl rfl rfl (by decide +kernel) ⟨Nat.le_of_ble_eq_true rfl, Nat.le_of_ble_eq_true rfl⟩) preEq rfl rfl hl.1 rfl (lv_room (Nat.le_of_ble_eq_true rfl)) dX7_count_5 ⟨Nat.zero_le _, Nat.zero_le _⟩) (fun r_1 h => ?_)
  refine lv_if_eq (tgt := 21) hx hb dX7_count_8 (by decide) (fun c_2 => ?_) (fun c_2 => ?_)
  · have h := h.1 c_2
    refine lv_iconst (v := (0 : Int32)) hx hb dX7_count_21 (by decide) ?_
    refine lv_istore_n (lv' := [(2, .int (0 : Int32)), (0, .ref (a 0)), (1, .int x1)]) hx hb dX7_count_22 rfl hl (by decide) rfl (fun ls hl => ?_)
    refine lv_iload_n hx hb dX7_count_23 rfl (lv_at hl 2 rfl) ?_
    by_cases c_3 : x1 = (0 : Int32)
    · have h := h.1 c_3
      refine lv_tableIn (off := 44) (tgt := 68) hx hb dX7_count_24 (by rw [c_3]; decide) (by rw [c_3]; decide) (by rw [c_3]; rfl) (by decide) ?_
      refine lv_aload_n hx hb dX7_count_68 rfl (lv_at hl 1 rfl) ?_
      refine va_get (D := D) (ci := 7) (v := .int (S0.1 5)) (C := RX7) (T := TX7) (N := 33) hx hb hts in_Mo hown hK hP 0 rfl rfl 5 (by decide) ln_70 (fun _ h9 => h9) rfl dX7_count_69 ?_
      exact W.iret (v := (S0.1 5)) hx hb hr (fun t ht hW => ⟨⟨(S0.1 5), S0, rfl, h, by rw [ht]; exact hP, va_K.moved hW.alike hK, hD⟩, hS.F ht⟩) hS.2.2 dX7_count_72
    · have h := h.2 c_3
      by_cases c_4 : x1 = (1 : Int32)
      · have h := h.1 c_4
        refine lv_tableIn (off := 49) (tgt := 73) hx hb dX7_count_24 (by rw [c_4]; decide) (by rw [c_4]; decide) (by rw [c_4]; rfl) (by decide) ?_
        refine lv_aload_n hx hb dX7_count_73 rfl (lv_at hl 1 rfl) ?_
        have hFc := fr_self hD hS hA
        refine gv_i (va_runV (As := []) (rest := []) ⟨hx, hb, hml, hown, hts⟩ (c_X7_pairsDanced l D k a S0 H.size _ h) (cwV 0 hts gX7_count_X7_pairsDanced rfl rfl rfl (by decide +kernel) ⟨Nat.le_of_ble_eq_true rfl, Nat.le_of_ble_eq_true rfl⟩) (gv_preV hK hnw hP hD (ci := 7) rfl 0 rfl) rfl rfl hl.1 rfl (lv_room (Nat.le_of_ble_eq_true rfl)) dX7_count_74 ⟨Nat.zero_le _, Nat.zero_le _⟩) hS hFc (fun r_5 u_6 H locs h hP1 hD1 hk1 hS => ?_)
        have hP := hP1
        have hD := hD1.weaken (fun _ _ _ z => hFc _ z)
        exact W.iret (v := r_5) hx hb hr (fun t ht hW => ⟨⟨r_5, u_6, rfl, h, by rw [ht]; exact hP, va_K.moved hW.alike hK, hD⟩, hS.F ht⟩) hS.2.2 dX7_count_77
      · have h := h.2 c_4
        by_cases c_7 : x1 = (2 : Int32)
        · have h := h.1 c_7
          refine lv_tableIn (off := 54) (tgt := 78) hx hb dX7_count_24 (by rw [c_7]; decide) (by rw [c_7]; decide) (by rw [c_7]; rfl) (by decide) ?_
          refine lv_iconst (v := (0 : Int32)) hx hb dX7_count_78 (by decide) ?_
          refine lv_istore_n (lv' := [(3, .int (0 : Int32)), (2, .int (0 : Int32)), (0, .ref (a 0)), (1, .int x1)]) hx hb dX7_count_79 rfl hl (by decide) rfl (fun ls hl => ?_)
          obtain ⟨n_14, h⟩ := h
          exact L_80 n_14 S0 (0 : Int32) (0 : Int32) H locs ls hP hD hS (lv_sub hl [2, 1, 0] rfl) h
        · have h := h.2 c_7
          by_cases c_15 : x1 = (3 : Int32)
          · have h := h.1 c_15
            refine lv_tableIn (off := 105) (tgt := 129) hx hb dX7_count_24 (by rw [c_15]; decide) (by rw [c_15]; decide) (by rw [c_15]; rfl) (by decide) ?_
            refine lv_aload_n hx hb dX7_count_129 rfl (lv_at hl 1 rfl) ?_
            refine va_get (D := D) (ci := 7) (v := .int (S0.1 6)) (C := RX7) (T := TX7) (N := 33) hx hb hts in_Mo hown hK hP 0 rfl rfl 6 (by decide) ln_109 (fun _ h9 => h9) rfl dX7_count_130 ?_
            exact W.iret (v := (S0.1 6)) hx hb hr (fun t ht hW => ⟨⟨(S0.1 6), S0, rfl, h, by rw [ht]; exact hP, va_K.moved hW.alike hK, hD⟩, hS.F ht⟩) hS.2.2 dX7_count_133
          · have h := h.2 c_15
            by_cases c_16 : x1 = (4 : Int32)
            · have h := h.1 c_16
              refine lv_tableIn (off := 110) (tgt := 134) hx hb dX7_count_24 (by rw [c_16]; decide) (by rw [c_16]; decide) (by rw [c_16]; rfl) (by decide) ?_
              refine lv_iconst (v := (0 : Int32)) hx hb dX7_count_134 (by decide) ?_
              refine lv_istore_n (lv' := [(3, .int (0 : Int32)), (2, .int (0 : Int32)), (0, .ref (a 0)), (1, .int x1)]) hx hb dX7_count_135 rfl hl (by decide) rfl (fun ls hl => ?_)
              obtain ⟨n_18, h⟩ := h
              exact L_136 n_18 S0 (0 : Int32) (0 : Int32) H locs ls hP hD hS (lv_sub hl [2, 1, 0] rfl) h
            · have h := h.2 c_16
              by_cases c_19 : x1 = (5 : Int32)
              · have h := h.1 c_19
                refine lv_tableIn (off := 137) (tgt := 161) hx hb dX7_count_24 (by rw [c_19]; decide) (by rw [c_19]; decide) (by rw [c_19]; rfl) (by decide) ?_
                refine lv_aload_n hx hb dX7_count_161 rfl (lv_at hl 1 rfl) ?_
                refine va_get (D := D) (ci := 7) (v := .int (S0.1 12)) (C := RX7) (T := TX7) (N := 33) hx hb hts in_Mo hown hK hP 0 rfl rfl 12 (by decide) ln_86 (fun _ h9 => h9) rfl dX7_count_162 ?_
                exact W.iret (v := (S0.1 12)) hx hb hr (fun t ht hW => ⟨⟨(S0.1 12), S0, rfl, h, by rw [ht]; exact hP, va_K.moved hW.alike hK, hD⟩, hS.F ht⟩) hS.2.2 dX7_count_165
              · have h := h.2 c_19
                by_cases c_20 : x1 = (6 : Int32)
                · have h := h.1 c_20
                  refine lv_tableIn (off := 142) (tgt := 166) hx hb dX7_count_24 (by rw [c_20]; decide) (by rw [c_20]; decide) (by rw [c_20]; rfl) (by decide) ?_
                  refine lv_aload_n hx hb dX7_count_166 rfl (lv_at hl 1 rfl) ?_
                  refine va_get (D := D) (ci := 7) (v := .int (S0.1 29)) (C := RX7) (T := TX7) (N := 33) hx hb hts in_Mo hown hK hP 0 rfl rfl 29 (by decide) ln_231 (fun _ h9 => h9) rfl dX7_count_167 ?_
                  exact W.iret (v := (S0.1 29)) hx hb hr (fun t ht hW => ⟨⟨(S0.1 29), S0, rfl, h, by rw [ht]; exact hP, va_K.moved hW.alike hK, hD⟩, hS.F ht⟩) hS.2.2 dX7_count_170
                · have h := h.2 c_20
                  refine lv_tableD (tgt := 171) hx hb dX7_count_24 (by
      have n0 := lv_neT (k := (0 : Int32)) (a := 0) c_3 (by decide)
      have n1 := lv_neT (k := (1 : Int32)) (a := 1) c_4 (by decide)
      have n2 := lv_neT (k := (2 : Int32)) (a := 2) c_7 (by decide)
      have n3 := lv_neT (k := (3 : Int32)) (a := 3) c_15 (by decide)
      have n4 := lv_neT (k := (4 : Int32)) (a := 4) c_16 (by decide)
      have n5 := lv_neT (k := (5 : Int32)) (a := 5) c_19 (by decide)
      have n6 := lv_neT (k := (6 : Int32)) (a := 6) c_20 (by decide)
      rcases (show x1.toInt < 0 ∨ 6 < x1.toInt by omega) with q | q
      · exact Or.inl q
      · exact Or.inr (Or.inl q)) (by decide) ?_
                  refine lv_bipush (v := (-9 : Int32)) hx hb dX7_count_171 (by decide) ?_
                  exact W.iret (v := (-9 : Int32)) hx hb hr (fun t ht hW => ⟨⟨(-9 : Int32), S0, rfl, h, by rw [ht]; exact hP, va_K.moved hW.alike hK, hD⟩, hS.F ht⟩) hS.2.2 dX7_count_173
  · have h := h.2 c_2
    refine lv_aload_n hx hb dX7_count_11 rfl (lv_at hl 0 rfl) ?_
    refine va_get (D := D) (ci := 7) (v := .ref (a 1)) (C := RX7) (T := TX7) (N := 33) hx hb hts in_Mo hown hK hP 0 rfl rfl 0 (by decide) ln_7 (fun _ h9 => h9) rfl dX7_count_12 ?_
    refine lv_iload_n hx hb dX7_count_15 rfl (lv_at hl 1 rfl) ?_
    refine lv_bipush (v := (10 : Int32)) hx hb dX7_count_16 (by decide) ?_
    refine lv_isub hx hb dX7_count_18 ?_
    refine va_iald hx hb hK hP 1 0 rfl rfl h.1 dX7_count_19 ?_
    have h := h.2
    exact W.iret (v := (S0.2 0 (x1 - (10 : Int32)).toNatClampNeg)) hx hb hr (fun t ht hW => ⟨⟨(S0.2 0 (x1 - (10 : Int32)).toNatClampNeg), S0, rfl, h, by rw [ht]; exact hP, va_K.moved hW.alike hK, hD⟩, hS.F ht⟩) hS.2.2 dX7_count_20
