/-! X7_next -/
def wp_X7_next (S0 : St) (Q : Int32 → St → Prop) : Prop := (((S0.1 12) ≤ (S0.1 13)) → (Q (-1 : Int32) S0)) ∧ ((¬ (S0.1 12) ≤ (S0.1 13)) → (vp_in (S0.1 13) 64 ∧ (Q (S0.2 7 (S0.1 13).toNatClampNeg) S0)))
abbrev rmX7_next : Room := { frames := 0, cells := 0, slots := 0, locals := 0 }
set_option maxRecDepth 100000 in
set_option maxHeartbeats 4000000 in
theorem c_X7_next (l : Launch) (D : va_G) (k : Nat → ClassId) (a : Nat → Nat) (S0 : St) (sz : Nat) (Q : Int32 → St → Prop) (h : wp_X7_next S0 Q) : Met l yX7_next wsX7_next rmX7_next (cPc D k (wMo k a S0) [.ref (a 0)] sz) (va_Qi (fun (r : Int32) (u : St) => Q r u) (cB D k (va_A (wMo k a S0) sz) (fun u : St => wMo k a u)) (va_A (wMo k a S0) sz)) 0 0 (va_A (wMo k a S0) sz) := by
  refine ct_entry (cc := cX7_next) (maxL := 1) (ret := (some .int)) (Rn := RX7) (Qc := fun A => (va_Qi (fun (r : Int32) (u : St) => Q r u) (cB D k A (fun u : St => wMo k a u)) A)) (by decide) rfl rfl (Nat.le_of_ble_eq_true rfl) ?_
  intro p e s m below meth c hx hb hr hlocks hml hts hown hnw hK A hA H locs hP hD hS ls hl
  have hl : lv_has ls 1 [(0, .ref (a 0))] := hl
  have ln_25 := hts (.fieldLink RX7 25 "WithTheSameOneModel" "tape" "[I") (by decide +kernel)
  have ln_86 := hts (.fieldLink RX7 86 "WithTheSameOneModel" "taped" "I") (by decide +kernel)
  have ln_92 := hts (.fieldLink RX7 92 "WithTheSameOneModel" "at" "I") (by decide +kernel)
  have in_Mo : ∀ w ∈ wsX70, w ∈ wsX7_next := fun _ h => List.mem_cons_of_mem _ (List.mem_append_right _ h)
  unfold wp_X7_next at h
  refine lv_aload_n hx hb dX7_next_0 rfl (lv_at hl 0 rfl) ?_
  refine va_get (D := D) (ci := 7) (v := .int (S0.1 13)) (C := RX7) (T := TX7) (N := 33) hx hb hts in_Mo hown hK hP 0 rfl rfl 13 (by decide) ln_92 (fun _ h9 => h9) rfl dX7_next_1 ?_
  refine lv_aload_n hx hb dX7_next_4 rfl (lv_at hl 0 rfl) ?_
  refine va_get (D := D) (ci := 7) (v := .int (S0.1 12)) (C := RX7) (T := TX7) (N := 33) hx hb hts in_Mo hown hK hP 0 rfl rfl 12 (by decide) ln_86 (fun _ h9 => h9) rfl dX7_next_5 ?_
  refine lv_icmp_ge (tgt := 23) hx hb dX7_next_8 (by decide) (fun c_1 => ?_) (fun c_1 => ?_)
  · have h := h.1 c_1
    refine lv_iconst (v := (-1 : Int32)) hx hb dX7_next_23 (by decide) ?_
    exact W.iret (v := (-1 : Int32)) hx hb hr (fun t ht hW => ⟨⟨(-1 : Int32), S0, rfl, h, by rw [ht]; exact hP, va_K.moved hW.alike hK, hD⟩, hS.F ht⟩) hS.2.2 dX7_next_24
  · have h := h.2 c_1
    refine lv_aload_n hx hb dX7_next_11 rfl (lv_at hl 0 rfl) ?_
    refine va_get (D := D) (ci := 7) (v := .ref (a 6)) (C := RX7) (T := TX7) (N := 33) hx hb hts in_Mo hown hK hP 0 rfl rfl 7 (by decide) ln_25 (fun _ h9 => h9) rfl dX7_next_12 ?_
    refine lv_aload_n hx hb dX7_next_15 rfl (lv_at hl 0 rfl) ?_
    refine va_get (D := D) (ci := 7) (v := .int (S0.1 13)) (C := RX7) (T := TX7) (N := 33) hx hb hts in_Mo hown hK hP 0 rfl rfl 13 (by decide) ln_92 (fun _ h9 => h9) rfl dX7_next_16 ?_
    refine va_iald hx hb hK hP 6 0 rfl rfl h.1 dX7_next_19 ?_
    have h := h.2
    refine lv_goto (tgt := 24) hx hb dX7_next_20 (by decide) ?_
    exact W.iret (v := (S0.2 7 (S0.1 13).toNatClampNeg)) hx hb hr (fun t ht hW => ⟨⟨(S0.2 7 (S0.1 13).toNatClampNeg), S0, rfl, h, by rw [ht]; exact hP, va_K.moved hW.alike hK, hD⟩, hS.F ht⟩) hS.2.2 dX7_next_24
/-! X7_digit -/
def wp_X7_digit (S0 : St) (Q : Int32 → St → Prop) : Prop := wp_X7_next S0 (fun r_1 u_2 => wp_X7_isIn r_1 (48 : Int32) (57 : Int32) (fun r_3 => ((¬ r_3 = 0) → (∀ S_5, S_5 = (sI u_2 13 ((u_2.1 13) + (1 : Int32))) → (vp_in ((S_5.1 13) - (1 : Int32)) 64 ∧ (Q ((S_5.2 7 ((S_5.1 13) - (1 : Int32)).toNatClampNeg) - (48 : Int32)) S_5)))) ∧ ((r_3 = 0) → (Q (-1 : Int32) u_2))))
abbrev rmX7_digit : Room := { frames := 1, cells := 0, slots := 0, locals := 22 }
set_option maxRecDepth 100000 in
set_option maxHeartbeats 4000000 in
theorem c_X7_digit (l : Launch) (D : va_G) (k : Nat → ClassId) (a : Nat → Nat) (S0 : St) (sz : Nat) (Q : Int32 → St → Prop) (h : wp_X7_digit S0 Q) : Met l yX7_digit wsX7_digit rmX7_digit (cPc D k (wMo k a S0) [.ref (a 0)] sz) (va_Qi (fun (r : Int32) (u : St) => Q r u) (cB D k (va_A (wMo k a S0) sz) (fun u : St => wMo k a u)) (va_A (wMo k a S0) sz)) 0 0 (va_A (wMo k a S0) sz) := by
  refine ct_entry (cc := cX7_digit) (maxL := 1) (ret := (some .int)) (Rn := RX7) (Qc := fun A => (va_Qi (fun (r : Int32) (u : St) => Q r u) (cB D k A (fun u : St => wMo k a u)) A)) (by decide) rfl rfl (Nat.le_of_ble_eq_true rfl) ?_
  intro p e s m below meth c hx hb hr hlocks hml hts hown hnw hK A hA H locs hP hD hS ls hl
  have hl : lv_has ls 1 [(0, .ref (a 0))] := hl
  have ln_25 := hts (.fieldLink RX7 25 "WithTheSameOneModel" "tape" "[I") (by decide +kernel)
  have ln_92 := hts (.fieldLink RX7 92 "WithTheSameOneModel" "at" "I") (by decide +kernel)
  have in_Mo : ∀ w ∈ wsX70, w ∈ wsX7_digit := fun _ h => List.mem_cons_of_mem _ (List.mem_append_right _ h)
  unfold wp_X7_digit at h
  refine lv_aload_n hx hb dX7_digit_0 rfl (lv_at hl 0 rfl) ?_
  have hFc := fr_self hD hS hA
  refine gv_i (va_runV (As := []) (rest := []) ⟨hx, hb, hml, hown, hts⟩ (c_X7_next l D k a S0 H.size _ h) (cwV 0 hts gX7_digit_X7_next rfl rfl rfl (by decide +kernel) ⟨Nat.le_of_ble_eq_true rfl, Nat.le_of_ble_eq_true rfl⟩) (gv_preV hK hnw hP hD (ci := 7) rfl 0 rfl) rfl rfl hl.1 rfl (lv_room (Nat.le_of_ble_eq_true rfl)) dX7_digit_1 ⟨Nat.zero_le _, Nat.zero_le _⟩) hS hFc (fun r_1 u_2 H locs h hP1 hD1 hk1 hS => ?_)
  have hP := hP1
  have hD := hD1.weaken (fun _ _ _ z => hFc _ z)
  refine lv_bipush (v := (48 : Int32)) hx hb dX7_digit_4 (by decide) ?_
  refine lv_bipush (v := (57 : Int32)) hx hb dX7_digit_6 (by decide) ?_
  refine gs_i (va_runS (As := [.int r_1, .int (48 : Int32), .int (57 : Int32)]) (rest := []) ⟨hx, hb, hml, hown, hts⟩ (c_X7_isIn l r_1 (48 : Int32) (57 : Int32) _ h) (va_cwS 3 hts gX7_digit_X7_isIn rfl rfl rfl (by decide +kernel) ⟨Nat.le_of_ble_eq_true rfl, Nat.le_of_ble_eq_true rfl⟩) preEq rfl rfl hl.1 rfl (lv_room (Nat.le_of_ble_eq_true rfl)) dX7_digit_8 ⟨Nat.zero_le _, Nat.zero_le _⟩) (fun r_3 h => ?_)
  refine lv_if_ne (tgt := 16) hx hb dX7_digit_11 (by decide) (fun c_4 => ?_) (fun c_4 => ?_)
  · have h := h.1 c_4
    refine lv_aload_n hx hb dX7_digit_16 rfl (lv_at hl 0 rfl) ?_
    refine lv_dup hx hb dX7_digit_17 rfl ?_
    refine va_get (D := D) (ci := 7) (v := .int (u_2.1 13)) (C := RX7) (T := TX7) (N := 33) hx hb hts in_Mo hown hK hP 0 rfl rfl 13 (by decide) ln_92 (fun _ h9 => h9) rfl dX7_digit_18 ?_
    refine lv_iconst (v := (1 : Int32)) hx hb dX7_digit_21 (by decide) ?_
    refine lv_iadd hx hb dX7_digit_22 ?_
    refine va_put (D := D) (ci := 7) (v := .int ((u_2.1 13) + (1 : Int32))) (ty := .int) (C := RX7) (T := TX7) (N := 33) hx hb hts in_Mo tyX7 tyX7_ok nmX7 hown hK hP hD hS 0 rfl rfl 13 (by decide) ln_92 (fun _ h9 => h9) rfl (by decide +kernel) rfl rfl (Nat.le_of_ble_eq_true rfl) dX7_digit_23 (fun H locs hP hD hS => ?_)
    obtain ⟨S_5, e_6⟩ : ∃ z : St, z = (sI u_2 13 ((u_2.1 13) + (1 : Int32))) := ⟨_, rfl⟩
    have h := h S_5 e_6
    have hP : va_P D vwCl (wMo k a S_5) H := by rw [e_6]; exact hP
    have hD : va_D A (wMo k a S_5) := by rw [e_6]; exact hD
    refine lv_aload_n hx hb dX7_digit_26 rfl (lv_at hl 0 rfl) ?_
    refine va_get (D := D) (ci := 7) (v := .ref (a 6)) (C := RX7) (T := TX7) (N := 33) hx hb hts in_Mo hown hK hP 0 rfl rfl 7 (by decide) ln_25 (fun _ h9 => h9) rfl dX7_digit_27 ?_
    refine lv_aload_n hx hb dX7_digit_30 rfl (lv_at hl 0 rfl) ?_
    refine va_get (D := D) (ci := 7) (v := .int (S_5.1 13)) (C := RX7) (T := TX7) (N := 33) hx hb hts in_Mo hown hK hP 0 rfl rfl 13 (by decide) ln_92 (fun _ h9 => h9) rfl dX7_digit_31 ?_
    refine lv_iconst (v := (1 : Int32)) hx hb dX7_digit_34 (by decide) ?_
    refine lv_isub hx hb dX7_digit_35 ?_
    refine va_iald hx hb hK hP 6 0 rfl rfl h.1 dX7_digit_36 ?_
    have h := h.2
    refine lv_bipush (v := (48 : Int32)) hx hb dX7_digit_37 (by decide) ?_
    refine lv_isub hx hb dX7_digit_39 ?_
    exact W.iret (v := ((S_5.2 7 ((S_5.1 13) - (1 : Int32)).toNatClampNeg) - (48 : Int32))) hx hb hr (fun t ht hW => ⟨⟨((S_5.2 7 ((S_5.1 13) - (1 : Int32)).toNatClampNeg) - (48 : Int32)), S_5, rfl, h, by rw [ht]; exact hP, va_K.moved hW.alike hK, hD⟩, hS.F ht⟩) hS.2.2 dX7_digit_40
  · have h := h.2 c_4
    refine lv_iconst (v := (-1 : Int32)) hx hb dX7_digit_14 (by decide) ?_
    exact W.iret (v := (-1 : Int32)) hx hb hr (fun t ht hW => ⟨⟨(-1 : Int32), u_2, rfl, h, by rw [ht]; exact hP, va_K.moved hW.alike hK, hD⟩, hS.F ht⟩) hS.2.2 dX7_digit_15
/-! X7_statement -/
def wp_X7_statement_97 (Q : Int32 → St → Prop) (S0 : St) (x1 : Int32) (y1 : Int32) (y2 : Int32) : Prop := vp_in y1 32 ∧ (∀ S_18, S_18 = (sA S0 11 y1.toNatClampNeg y2) → (vp_in x1 32 ∧ ((((S_18.2 11 x1.toNatClampNeg) < 0) → (Q (0 : Int32) S_18)) ∧ ((¬ (S_18.2 11 x1.toNatClampNeg) < 0) → (wp_X7_next S_18 (fun r_21 u_22 => ((r_21 = (59 : Int32)) → (∀ S_24, S_24 = (sI u_22 13 ((u_22.1 13) + (1 : Int32))) → (Q (1 : Int32) S_24))) ∧ ((¬ r_21 = (59 : Int32)) → (Q (0 : Int32) u_22))))))))
def wp_X7_statement_30 (Q : Int32 → St → Prop) (S0 : St) (x1 : Int32) (x2 : Int32) : Prop := vp_in x1 32 ∧ (∀ S_4, S_4 = (sA S0 8 x1.toNatClampNeg x2) → (vp_in x1 32 ∧ (∀ S_6, S_6 = (sA S_4 9 x1.toNatClampNeg (S_4.1 13)) → (∀ S_8, S_8 = (sI S_6 13 ((S_6.1 13) + (1 : Int32))) → (wp_X7_digit S_8 (fun r_10 u_11 => vp_in x1 32 ∧ (∀ S_12, S_12 = (sA u_11 10 x1.toNatClampNeg r_10) → (vp_in x1 32 ∧ (((0 ≤ (S_12.2 10 x1.toNatClampNeg)) → (((¬ x2 = (108 : Int32)) → (wp_X7_digit S_12 (fun r_16 u_17 => wp_X7_statement_97 Q u_17 x1 x1 r_16))) ∧ ((x2 = (108 : Int32)) → (wp_X7_statement_97 Q S_12 x1 x1 (0 : Int32))))) ∧ ((¬ 0 ≤ (S_12.2 10 x1.toNatClampNeg)) → (Q (0 : Int32) S_12)))))))))))
def wp_X7_statement (S0 : St) (Q : Int32 → St → Prop) : Prop := wp_X7_next S0 (fun r_1 u_2 => ((r_1 = (100 : Int32)) → (wp_X7_statement_30 Q u_2 (S0.1 14) r_1)) ∧ ((¬ r_1 = (100 : Int32)) → (((r_1 = (112 : Int32)) → (wp_X7_statement_30 Q u_2 (S0.1 14) r_1)) ∧ ((¬ r_1 = (112 : Int32)) → (((r_1 = (108 : Int32)) → (wp_X7_statement_30 Q u_2 (S0.1 14) r_1)) ∧ ((¬ r_1 = (108 : Int32)) → (Q (0 : Int32) u_2)))))))
abbrev rmX7_statement : Room := { frames := 2, cells := 0, slots := 0, locals := 42 }
set_option maxRecDepth 100000 in
set_option maxHeartbeats 4000000 in
theorem c_X7_statement (l : Launch) (D : va_G) (k : Nat → ClassId) (a : Nat → Nat) (S0 : St) (sz : Nat) (Q : Int32 → St → Prop) (h : wp_X7_statement S0 Q) : Met l yX7_statement wsX7_statement rmX7_statement (cPc D k (wMo k a S0) [.ref (a 0)] sz) (va_Qi (fun (r : Int32) (u : St) => Q r u) (cB D k (va_A (wMo k a S0) sz) (fun u : St => wMo k a u)) (va_A (wMo k a S0) sz)) 0 0 (va_A (wMo k a S0) sz) := by
  refine ct_entry (cc := cX7_statement) (maxL := 3) (ret := (some .boolean)) (Rn := RX7) (Qc := fun A => (va_Qi (fun (r : Int32) (u : St) => Q r u) (cB D k A (fun u : St => wMo k a u)) A)) (by decide) rfl rfl (Nat.le_of_ble_eq_true rfl) ?_
  intro p e s m below meth c hx hb hr hlocks hml hts hown hnw hK A hA H locs hP hD hS ls hl
  have hl : lv_has ls 3 [(0, .ref (a 0))] := hl
  have ln_103 := hts (.fieldLink RX7 103 "WithTheSameOneModel" "statements" "I") (by decide +kernel)
  have ln_28 := hts (.fieldLink RX7 28 "WithTheSameOneModel" "letter" "[I") (by decide +kernel)
  have ln_31 := hts (.fieldLink RX7 31 "WithTheSameOneModel" "letterAt" "[I") (by decide +kernel)
  have ln_34 := hts (.fieldLink RX7 34 "WithTheSameOneModel" "one" "[I") (by decide +kernel)
  have ln_37 := hts (.fieldLink RX7 37 "WithTheSameOneModel" "two" "[I") (by decide +kernel)
  have ln_92 := hts (.fieldLink RX7 92 "WithTheSameOneModel" "at" "I") (by decide +kernel)
  have in_Mo : ∀ w ∈ wsX70, w ∈ wsX7_statement := fun _ h => List.mem_cons_of_mem _ (List.mem_append_right _ h)
  have L_97 : ∀ (S0 : St) (x1 : Int32) (y1 : Int32) (y2 : Int32), ∀ (H : Heap) (locs : List Loc) (ls : Array Slot), va_P D vwCl (wMo k a S0) H → va_D A (wMo k a S0) → va_S A s.heap H locs → lv_has ls 3 [(0, .ref (a 0)), (1, .int x1)] → wp_X7_statement_97 Q S0 x1 y1 y2 → W p l e rmX7_statement s m ([.ref (a 0)] : List Value).toArray below meth c H locs 0 0 (MQ below (va_Qi (fun (r : Int32) (u : St) => Q r u) (cB D k A (fun u : St => wMo k a u)) A) ([.ref (a 0)] : List Value).toArray s 0 0 A) (F0 m 97 ls [.int y2, .int y1, .ref (a 10)]) := by
    intro S0 x1 y1 y2 H locs ls hP hD hS hl h
    unfold wp_X7_statement_97 at h
    refine va_iast hx hb hK hP hD hS 10 0 rfl rfl h.1 dX7_statement_97 (fun H locs hP hD hS => ?_)
    have h := h.2
    obtain ⟨S_18, e_19⟩ : ∃ z : St, z = (sA S0 11 y1.toNatClampNeg y2) := ⟨_, rfl⟩
    have h := h S_18 e_19
    have hP : va_P D vwCl (wMo k a S_18) H := by rw [e_19]; exact hP
    have hD : va_D A (wMo k a S_18) := by rw [e_19]; exact hD
    refine lv_aload_n hx hb dX7_statement_98 rfl (lv_at hl 0 rfl) ?_
    refine va_get (D := D) (ci := 7) (v := .ref (a 10)) (C := RX7) (T := TX7) (N := 33) hx hb hts in_Mo hown hK hP 0 rfl rfl 11 (by decide) ln_37 (fun _ h9 => h9) rfl dX7_statement_99 ?_
    refine lv_iload_n hx hb dX7_statement_102 rfl (lv_at hl 1 rfl) ?_
    refine va_iald hx hb hK hP 10 0 rfl rfl h.1 dX7_statement_103 ?_
    have h := h.2
    refine lv_if_lt (tgt := 116) hx hb dX7_statement_104 (by decide) (fun c_20 => ?_) (fun c_20 => ?_)
    · have h := h.1 c_20
      refine lv_iconst (v := (0 : Int32)) hx hb dX7_statement_116 (by decide) ?_
      exact W.zret (v := (0 : Int32)) hx hb hr rfl (fun t ht hW => ⟨⟨(0 : Int32), S_18, rfl, h, by rw [ht]; exact hP, va_K.moved hW.alike hK, hD⟩, hS.F ht⟩) hS.2.2 dX7_statement_117
    · have h := h.2 c_20
      refine lv_aload_n hx hb dX7_statement_107 rfl (lv_at hl 0 rfl) ?_
      have hFc := fr_self hD hS hA
      refine gv_i (va_runV (As := []) (rest := []) ⟨hx, hb, hml, hown, hts⟩ (c_X7_next l D k a S_18 H.size _ h) (cwV 0 hts gX7_statement_X7_next rfl rfl rfl (by decide +kernel) ⟨Nat.le_of_ble_eq_true rfl, Nat.le_of_ble_eq_true rfl⟩) (gv_preV hK hnw hP hD (ci := 7) rfl 0 rfl) rfl rfl hl.1 rfl (lv_room (Nat.le_of_ble_eq_true rfl)) dX7_statement_108 ⟨Nat.zero_le _, Nat.zero_le _⟩) hS hFc (fun r_21 u_22 H locs h hP1 hD1 hk1 hS => ?_)
      have hP := hP1
      have hD := hD1.weaken (fun _ _ _ z => hFc _ z)
      refine lv_bipush (v := (59 : Int32)) hx hb dX7_statement_111 (by decide) ?_
      refine lv_icmp_eq (tgt := 118) hx hb dX7_statement_113 (by decide) (fun c_23 => ?_) (fun c_23 => ?_)
      · have h := h.1 c_23
        refine lv_aload_n hx hb dX7_statement_118 rfl (lv_at hl 0 rfl) ?_
        refine lv_dup hx hb dX7_statement_119 rfl ?_
        refine va_get (D := D) (ci := 7) (v := .int (u_22.1 13)) (C := RX7) (T := TX7) (N := 33) hx hb hts in_Mo hown hK hP 0 rfl rfl 13 (by decide) ln_92 (fun _ h9 => h9) rfl dX7_statement_120 ?_
        refine lv_iconst (v := (1 : Int32)) hx hb dX7_statement_123 (by decide) ?_
        refine lv_iadd hx hb dX7_statement_124 ?_
        refine va_put (D := D) (ci := 7) (v := .int ((u_22.1 13) + (1 : Int32))) (ty := .int) (C := RX7) (T := TX7) (N := 33) hx hb hts in_Mo tyX7 tyX7_ok nmX7 hown hK hP hD hS 0 rfl rfl 13 (by decide) ln_92 (fun _ h9 => h9) rfl (by decide +kernel) rfl rfl (Nat.le_of_ble_eq_true rfl) dX7_statement_125 (fun H locs hP hD hS => ?_)
        obtain ⟨S_24, e_25⟩ : ∃ z : St, z = (sI u_22 13 ((u_22.1 13) + (1 : Int32))) := ⟨_, rfl⟩
        have h := h S_24 e_25
        have hP : va_P D vwCl (wMo k a S_24) H := by rw [e_25]; exact hP
        have hD : va_D A (wMo k a S_24) := by rw [e_25]; exact hD
        refine lv_iconst (v := (1 : Int32)) hx hb dX7_statement_128 (by decide) ?_
        exact W.zret (v := (1 : Int32)) hx hb hr rfl (fun t ht hW => ⟨⟨(1 : Int32), S_24, rfl, h, by rw [ht]; exact hP, va_K.moved hW.alike hK, hD⟩, hS.F ht⟩) hS.2.2 dX7_statement_129
      · have h := h.2 c_23
        refine lv_iconst (v := (0 : Int32)) hx hb dX7_statement_116 (by decide) ?_
        exact W.zret (v := (0 : Int32)) hx hb hr rfl (fun t ht hW => ⟨⟨(0 : Int32), u_22, rfl, h, by rw [ht]; exact hP, va_K.moved hW.alike hK, hD⟩, hS.F ht⟩) hS.2.2 dX7_statement_117
  have L_30 : ∀ (S0 : St) (x1 : Int32) (x2 : Int32), ∀ (H : Heap) (locs : List Loc) (ls : Array Slot), va_P D vwCl (wMo k a S0) H → va_D A (wMo k a S0) → va_S A s.heap H locs → lv_has ls 3 [(0, .ref (a 0)), (1, .int x1), (2, .int x2)] → wp_X7_statement_30 Q S0 x1 x2 → W p l e rmX7_statement s m ([.ref (a 0)] : List Value).toArray below meth c H locs 0 0 (MQ below (va_Qi (fun (r : Int32) (u : St) => Q r u) (cB D k A (fun u : St => wMo k a u)) A) ([.ref (a 0)] : List Value).toArray s 0 0 A) (F0 m 30 ls []) := by
    intro S0 x1 x2 H locs ls hP hD hS hl h
    unfold wp_X7_statement_30 at h
    refine lv_aload_n hx hb dX7_statement_30 rfl (lv_at hl 0 rfl) ?_
    refine va_get (D := D) (ci := 7) (v := .ref (a 7)) (C := RX7) (T := TX7) (N := 33) hx hb hts in_Mo hown hK hP 0 rfl rfl 8 (by decide) ln_28 (fun _ h9 => h9) rfl dX7_statement_31 ?_
    refine lv_iload_n hx hb dX7_statement_34 rfl (lv_at hl 1 rfl) ?_
    refine lv_iload_n hx hb dX7_statement_35 rfl (lv_at hl 2 rfl) ?_
    refine va_iast hx hb hK hP hD hS 7 0 rfl rfl h.1 dX7_statement_36 (fun H locs hP hD hS => ?_)
    have h := h.2
    obtain ⟨S_4, e_5⟩ : ∃ z : St, z = (sA S0 8 x1.toNatClampNeg x2) := ⟨_, rfl⟩
    have h := h S_4 e_5
    have hP : va_P D vwCl (wMo k a S_4) H := by rw [e_5]; exact hP
    have hD : va_D A (wMo k a S_4) := by rw [e_5]; exact hD
    refine lv_aload_n hx hb dX7_statement_37 rfl (lv_at hl 0 rfl) ?_
    refine va_get (D := D) (ci := 7) (v := .ref (a 8)) (C := RX7) (T := TX7) (N := 33) hx hb hts in_Mo hown hK hP 0 rfl rfl 9 (by decide) ln_31 (fun _ h9 => h9) rfl dX7_statement_38 ?_
    refine lv_iload_n hx hb dX7_statement_41 rfl (lv_at hl 1 rfl) ?_
    refine lv_aload_n hx hb dX7_statement_42 rfl (lv_at hl 0 rfl) ?_
    refine va_get (D := D) (ci := 7) (v := .int (S_4.1 13)) (C := RX7) (T := TX7) (N := 33) hx hb hts in_Mo hown hK hP 0 rfl rfl 13 (by decide) ln_92 (fun _ h9 => h9) rfl dX7_statement_43 ?_
    refine va_iast hx hb hK hP hD hS 8 0 rfl rfl h.1 dX7_statement_46 (fun H locs hP hD hS => ?_)
    have h := h.2
    obtain ⟨S_6, e_7⟩ : ∃ z : St, z = (sA S_4 9 x1.toNatClampNeg (S_4.1 13)) := ⟨_, rfl⟩
    have h := h S_6 e_7
    have hP : va_P D vwCl (wMo k a S_6) H := by rw [e_7]; exact hP
    have hD : va_D A (wMo k a S_6) := by rw [e_7]; exact hD
    refine lv_aload_n hx hb dX7_statement_47 rfl (lv_at hl 0 rfl) ?_
    refine lv_dup hx hb dX7_statement_48 rfl ?_
    refine va_get (D := D) (ci := 7) (v := .int (S_6.1 13)) (C := RX7) (T := TX7) (N := 33) hx hb hts in_Mo hown hK hP 0 rfl rfl 13 (by decide) ln_92 (fun _ h9 => h9) rfl dX7_statement_49 ?_
    refine lv_iconst (v := (1 : Int32)) hx hb dX7_statement_52 (by decide) ?_
    refine lv_iadd hx hb dX7_statement_53 ?_
    refine va_put (D := D) (ci := 7) (v := .int ((S_6.1 13) + (1 : Int32))) (ty := .int) (C := RX7) (T := TX7) (N := 33) hx hb hts in_Mo tyX7 tyX7_ok nmX7 hown hK hP hD hS 0 rfl rfl 13 (by decide) ln_92 (fun _ h9 => h9) rfl (by decide +kernel) rfl rfl (Nat.le_of_ble_eq_true rfl) dX7_statement_54 (fun H locs hP hD hS => ?_)
    obtain ⟨S_8, e_9⟩ : ∃ z : St, z = (sI S_6 13 ((S_6.1 13) + (1 : Int32))) := ⟨_, rfl⟩
    have h := h S_8 e_9
    have hP : va_P D vwCl (wMo k a S_8) H := by rw [e_9]; exact hP
    have hD : va_D A (wMo k a S_8) := by rw [e_9]; exact hD
    refine lv_aload_n hx hb dX7_statement_57 rfl (lv_at hl 0 rfl) ?_
    refine va_get (D := D) (ci := 7) (v := .ref (a 9)) (C := RX7) (T := TX7) (N := 33) hx hb hts in_Mo hown hK hP 0 rfl rfl 10 (by decide) ln_34 (fun _ h9 => h9) rfl dX7_statement_58 ?_
    refine lv_iload_n hx hb dX7_statement_61 rfl (lv_at hl 1 rfl) ?_
    refine lv_aload_n hx hb dX7_statement_62 rfl (lv_at hl 0 rfl) ?_
    have hFc := fr_self hD hS hA
    refine gv_i (va_runV (As := []) (rest := [.int x1, .ref (a 9)]) ⟨hx, hb, hml, hown, hts⟩ (c_X7_digit l D k a S_8 H.size _ h) (cwV 0 hts gX7_statement_X7_digit rfl rfl rfl (by decide +kernel) ⟨Nat.le_of_ble_eq_true rfl, Nat.le_of_ble_eq_true rfl⟩) (gv_preV hK hnw hP hD (ci := 7) rfl 0 rfl) rfl rfl hl.1 rfl (lv_room (Nat.le_of_ble_eq_true rfl)) dX7_statement_63 ⟨Nat.zero_le _, Nat.zero_le _⟩) hS hFc (fun r_10 u_11 H locs h hP1 hD1 hk1 hS => ?_)
    have hP := hP1
    have hD := hD1.weaken (fun _ _ _ z => hFc _ z)
    refine va_iast hx hb hK hP hD hS 9 0 rfl rfl h.1 dX7_statement_66 (fun H locs hP hD hS => ?_)
    have h := h.2
    obtain ⟨S_12, e_13⟩ : ∃ z : St, z = (sA u_11 10 x1.toNatClampNeg r_10) := ⟨_, rfl⟩
    have h := h S_12 e_13
    have hP : va_P D vwCl (wMo k a S_12) H := by rw [e_13]; exact hP
    have hD : va_D A (wMo k a S_12) := by rw [e_13]; exact hD
    refine lv_aload_n hx hb dX7_statement_67 rfl (lv_at hl 0 rfl) ?_
    refine va_get (D := D) (ci := 7) (v := .ref (a 9)) (C := RX7) (T := TX7) (N := 33) hx hb hts in_Mo hown hK hP 0 rfl rfl 10 (by decide) ln_34 (fun _ h9 => h9) rfl dX7_statement_68 ?_
    refine lv_iload_n hx hb dX7_statement_71 rfl (lv_at hl 1 rfl) ?_
    refine va_iald hx hb hK hP 9 0 rfl rfl h.1 dX7_statement_72 ?_
    have h := h.2
    refine lv_if_ge (tgt := 78) hx hb dX7_statement_73 (by decide) (fun c_14 => ?_) (fun c_14 => ?_)
    · have h := h.1 c_14
      refine lv_aload_n hx hb dX7_statement_78 rfl (lv_at hl 0 rfl) ?_
      refine va_get (D := D) (ci := 7) (v := .ref (a 10)) (C := RX7) (T := TX7) (N := 33) hx hb hts in_Mo hown hK hP 0 rfl rfl 11 (by decide) ln_37 (fun _ h9 => h9) rfl dX7_statement_79 ?_
      refine lv_iload_n hx hb dX7_statement_82 rfl (lv_at hl 1 rfl) ?_
      refine lv_iload_n hx hb dX7_statement_83 rfl (lv_at hl 2 rfl) ?_
      refine lv_bipush (v := (108 : Int32)) hx hb dX7_statement_84 (by decide) ?_
      refine lv_icmp_ne (tgt := 93) hx hb dX7_statement_86 (by decide) (fun c_15 => ?_) (fun c_15 => ?_)
      · have h := h.1 c_15
        refine lv_aload_n hx hb dX7_statement_93 rfl (lv_at hl 0 rfl) ?_
        have hFc := fr_self hD hS hA
        refine gv_i (va_runV (As := []) (rest := [.int x1, .ref (a 10)]) ⟨hx, hb, hml, hown, hts⟩ (c_X7_digit l D k a S_12 H.size _ h) (cwV 0 hts gX7_statement_X7_digit rfl rfl rfl (by decide +kernel) ⟨Nat.le_of_ble_eq_true rfl, Nat.le_of_ble_eq_true rfl⟩) (gv_preV hK hnw hP hD (ci := 7) rfl 0 rfl) rfl rfl hl.1 rfl (lv_room (Nat.le_of_ble_eq_true rfl)) dX7_statement_94 ⟨Nat.zero_le _, Nat.zero_le _⟩) hS hFc (fun r_16 u_17 H locs h hP1 hD1 hk1 hS => ?_)
        have hP := hP1
        have hD := hD1.weaken (fun _ _ _ z => hFc _ z)
        exact L_97 u_17 x1 x1 r_16 H locs ls hP hD hS (lv_sub hl [0, 1] rfl) h
      · have h := h.2 c_15
        refine lv_iconst (v := (0 : Int32)) hx hb dX7_statement_89 (by decide) ?_
        refine lv_goto (tgt := 97) hx hb dX7_statement_90 (by decide) ?_
        exact L_97 S_12 x1 x1 (0 : Int32) H locs ls hP hD hS (lv_sub hl [0, 1] rfl) h
    · have h := h.2 c_14
      refine lv_iconst (v := (0 : Int32)) hx hb dX7_statement_76 (by decide) ?_
      exact W.zret (v := (0 : Int32)) hx hb hr rfl (fun t ht hW => ⟨⟨(0 : Int32), S_12, rfl, h, by rw [ht]; exact hP, va_K.moved hW.alike hK, hD⟩, hS.F ht⟩) hS.2.2 dX7_statement_77
  unfold wp_X7_statement at h
  refine lv_aload_n hx hb dX7_statement_0 rfl (lv_at hl 0 rfl) ?_
  refine va_get (D := D) (ci := 7) (v := .int (S0.1 14)) (C := RX7) (T := TX7) (N := 33) hx hb hts in_Mo hown hK hP 0 rfl rfl 14 (by decide) ln_103 (fun _ h9 => h9) rfl dX7_statement_1 ?_
  refine lv_istore_n (lv' := [(1, .int (S0.1 14)), (0, .ref (a 0))]) hx hb dX7_statement_4 rfl hl (by decide) rfl (fun ls hl => ?_)
  refine lv_aload_n hx hb dX7_statement_5 rfl (lv_at hl 1 rfl) ?_
  have hFc := fr_self hD hS hA
  refine gv_i (va_runV (As := []) (rest := []) ⟨hx, hb, hml, hown, hts⟩ (c_X7_next l D k a S0 H.size _ h) (cwV 0 hts gX7_statement_X7_next rfl rfl rfl (by decide +kernel) ⟨Nat.le_of_ble_eq_true rfl, Nat.le_of_ble_eq_true rfl⟩) (gv_preV hK hnw hP hD (ci := 7) rfl 0 rfl) rfl rfl hl.1 rfl (lv_room (Nat.le_of_ble_eq_true rfl)) dX7_statement_6 ⟨Nat.zero_le _, Nat.zero_le _⟩) hS hFc (fun r_1 u_2 H locs h hP1 hD1 hk1 hS => ?_)
  have hP := hP1
  have hD := hD1.weaken (fun _ _ _ z => hFc _ z)
  refine lv_istore_n (lv' := [(2, .int r_1), (1, .int (S0.1 14)), (0, .ref (a 0))]) hx hb dX7_statement_9 rfl hl (by decide) rfl (fun ls hl => ?_)
  refine lv_iload_n hx hb dX7_statement_10 rfl (lv_at hl 0 rfl) ?_
  refine lv_bipush (v := (100 : Int32)) hx hb dX7_statement_11 (by decide) ?_
  refine lv_icmp_eq (tgt := 30) hx hb dX7_statement_13 (by decide) (fun c_3 => ?_) (fun c_3 => ?_)
  · have h := h.1 c_3
    exact L_30 u_2 (S0.1 14) r_1 H locs ls hP hD hS (lv_sub hl [2, 1, 0] rfl) h
  · have h := h.2 c_3
    refine lv_iload_n hx hb dX7_statement_16 rfl (lv_at hl 0 rfl) ?_
    refine lv_bipush (v := (112 : Int32)) hx hb dX7_statement_17 (by decide) ?_
    refine lv_icmp_eq (tgt := 30) hx hb dX7_statement_19 (by decide) (fun c_26 => ?_) (fun c_26 => ?_)
    · have h := h.1 c_26
      exact L_30 u_2 (S0.1 14) r_1 H locs ls hP hD hS (lv_sub hl [2, 1, 0] rfl) h
    · have h := h.2 c_26
      refine lv_iload_n hx hb dX7_statement_22 rfl (lv_at hl 0 rfl) ?_
      refine lv_bipush (v := (108 : Int32)) hx hb dX7_statement_23 (by decide) ?_
      refine lv_icmp_eq (tgt := 30) hx hb dX7_statement_25 (by decide) (fun c_27 => ?_) (fun c_27 => ?_)
      · have h := h.1 c_27
        exact L_30 u_2 (S0.1 14) r_1 H locs ls hP hD hS (lv_sub hl [2, 1, 0] rfl) h
      · have h := h.2 c_27
        refine lv_iconst (v := (0 : Int32)) hx hb dX7_statement_28 (by decide) ?_
        exact W.zret (v := (0 : Int32)) hx hb hr rfl (fun t ht hW => ⟨⟨(0 : Int32), u_2, rfl, h, by rw [ht]; exact hP, va_K.moved hW.alike hK, hD⟩, hS.F ht⟩) hS.2.2 dX7_statement_29
/-! X7_comes -/
def wp_X7_comes (S0 : St) (x1 : Int32) (Q : Int32 → St → Prop) : Prop := vp_in x1 32 ∧ (((¬ (S0.2 8 x1.toNatClampNeg) = (108 : Int32)) → (vp_in x1 32 ∧ (((¬ (S0.2 8 x1.toNatClampNeg) = (112 : Int32)) → (vp_in x1 32 ∧ ((((5 : Int32) < (S0.2 10 x1.toNatClampNeg)) → (Q (0 : Int32) S0)) ∧ ((¬ (5 : Int32) < (S0.2 10 x1.toNatClampNeg)) → (((¬ (S0.1 5) = (8 : Int32)) → (vp_in x1 32 ∧ (vp_in (S0.1 5) 8 ∧ (∀ S_5, S_5 = (sA S0 1 (S0.1 5).toNatClampNeg (S0.2 10 x1.toNatClampNeg)) → (vp_in x1 32 ∧ (vp_in (S_5.1 5) 8 ∧ (∀ S_7, S_7 = (sA S_5 2 (S_5.1 5).toNatClampNeg (S_5.2 11 x1.toNatClampNeg)) → (vp_in (S_7.1 5) 8 ∧ (∀ S_9, S_9 = (sA S_7 3 (S_7.1 5).toNatClampNeg (0 : Int32)) → (vp_in (S_9.1 5) 8 ∧ (∀ S_11, S_11 = (sA S_9 4 (S_9.1 5).toNatClampNeg (0 : Int32)) → (∀ S_13, S_13 = (sI S_11 5 ((S_11.1 5) + (1 : Int32))) → (Q (1 : Int32) S_13))))))))))))) ∧ (((S0.1 5) = (8 : Int32)) → (Q (0 : Int32) S0))))))) ∧ (((S0.2 8 x1.toNatClampNeg) = (112 : Int32)) → (vp_in x1 32 ∧ (vp_in x1 32 ∧ (wp_X7_areTwo S0 (S0.2 10 x1.toNatClampNeg) (S0.2 11 x1.toNatClampNeg) (fun r_15 u_16 => ((¬ r_15 = 0) → (vp_in x1 32 ∧ (vp_in x1 32 ∧ (wp_X7_joins u_16 (u_16.2 10 x1.toNatClampNeg) (u_16.2 11 x1.toNatClampNeg) (fun u_19 => Q (1 : Int32) u_19))))) ∧ ((r_15 = 0) → (Q (0 : Int32) u_16)))))))))) ∧ (((S0.2 8 x1.toNatClampNeg) = (108 : Int32)) → (vp_in x1 32 ∧ (∀ S_20, S_20 = (sI S0 6 (S0.2 10 x1.toNatClampNeg)) → (vp_in x1 32 ∧ ((((3 : Int32) ≤ (S_20.2 10 x1.toNatClampNeg)) → (Q (0 : Int32) S_20)) ∧ ((¬ (3 : Int32) ≤ (S_20.2 10 x1.toNatClampNeg)) → (Q (1 : Int32) S_20))))))))
abbrev rmX7_comes : Room := { frames := 2, cells := 0, slots := 0, locals := 43 }
set_option maxRecDepth 100000 in
set_option maxHeartbeats 4000000 in
theorem c_X7_comes (l : Launch) (D : va_G) (k : Nat → ClassId) (a : Nat → Nat) (S0 : St) (sz : Nat) (x1 : Int32) (Q : Int32 → St → Prop) (h : wp_X7_comes S0 x1 Q) : Met l yX7_comes wsX7_comes rmX7_comes (cPc D k (wMo k a S0) [.ref (a 0), .int x1] sz) (va_Qi (fun (r : Int32) (u : St) => Q r u) (cB D k (va_A (wMo k a S0) sz) (fun u : St => wMo k a u)) (va_A (wMo k a S0) sz)) 0 0 (va_A (wMo k a S0) sz) := by
  refine ct_entry (cc := cX7_comes) (maxL := 2) (ret := (some .boolean)) (Rn := RX7) (Qc := fun A => (va_Qi (fun (r : Int32) (u : St) => Q r u) (cB D k A (fun u : St => wMo k a u)) A)) (by decide) rfl rfl (Nat.le_of_ble_eq_true rfl) ?_
  intro p e s m below meth c hx hb hr hlocks hml hts hown hnw hK A hA H locs hP hD hS ls hl
  have hl : lv_has ls 2 [(0, .ref (a 0)), (1, .int x1)] := hl
  have ln_109 := hts (.fieldLink RX7 109 "WithTheSameOneModel" "law" "I") (by decide +kernel)
  have ln_13 := hts (.fieldLink RX7 13 "WithTheSameOneModel" "kind" "[I") (by decide +kernel)
  have ln_16 := hts (.fieldLink RX7 16 "WithTheSameOneModel" "figure" "[I") (by decide +kernel)
  have ln_19 := hts (.fieldLink RX7 19 "WithTheSameOneModel" "brought" "[I") (by decide +kernel)
  have ln_22 := hts (.fieldLink RX7 22 "WithTheSameOneModel" "with" "[I") (by decide +kernel)
  have ln_28 := hts (.fieldLink RX7 28 "WithTheSameOneModel" "letter" "[I") (by decide +kernel)
  have ln_34 := hts (.fieldLink RX7 34 "WithTheSameOneModel" "one" "[I") (by decide +kernel)
  have ln_37 := hts (.fieldLink RX7 37 "WithTheSameOneModel" "two" "[I") (by decide +kernel)
  have ln_70 := hts (.fieldLink RX7 70 "WithTheSameOneModel" "dancers" "I") (by decide +kernel)
  have in_Mo : ∀ w ∈ wsX70, w ∈ wsX7_comes := fun _ h => List.mem_cons_of_mem _ (List.mem_append_right _ h)
  unfold wp_X7_comes at h
  refine lv_aload_n hx hb dX7_comes_0 rfl (lv_at hl 0 rfl) ?_
  refine va_get (D := D) (ci := 7) (v := .ref (a 7)) (C := RX7) (T := TX7) (N := 33) hx hb hts in_Mo hown hK hP 0 rfl rfl 8 (by decide) ln_28 (fun _ h9 => h9) rfl dX7_comes_1 ?_
  refine lv_iload_n hx hb dX7_comes_4 rfl (lv_at hl 1 rfl) ?_
  refine va_iald hx hb hK hP 7 0 rfl rfl h.1 dX7_comes_5 ?_
  have h := h.2
  refine lv_bipush (v := (108 : Int32)) hx hb dX7_comes_6 (by decide) ?_
  refine lv_icmp_ne (tgt := 37) hx hb dX7_comes_8 (by decide) (fun c_1 => ?_) (fun c_1 => ?_)
  · have h := h.1 c_1
    refine lv_aload_n hx hb dX7_comes_37 rfl (lv_at hl 0 rfl) ?_
    refine va_get (D := D) (ci := 7) (v := .ref (a 7)) (C := RX7) (T := TX7) (N := 33) hx hb hts in_Mo hown hK hP 0 rfl rfl 8 (by decide) ln_28 (fun _ h9 => h9) rfl dX7_comes_38 ?_
    refine lv_iload_n hx hb dX7_comes_41 rfl (lv_at hl 1 rfl) ?_
    refine va_iald hx hb hK hP 7 0 rfl rfl h.1 dX7_comes_42 ?_
    have h := h.2
    refine lv_bipush (v := (112 : Int32)) hx hb dX7_comes_43 (by decide) ?_
    refine lv_icmp_ne (tgt := 87) hx hb dX7_comes_45 (by decide) (fun c_2 => ?_) (fun c_2 => ?_)
    · have h := h.1 c_2
      refine lv_aload_n hx hb dX7_comes_87 rfl (lv_at hl 0 rfl) ?_
      refine va_get (D := D) (ci := 7) (v := .ref (a 9)) (C := RX7) (T := TX7) (N := 33) hx hb hts in_Mo hown hK hP 0 rfl rfl 10 (by decide) ln_34 (fun _ h9 => h9) rfl dX7_comes_88 ?_
      refine lv_iload_n hx hb dX7_comes_91 rfl (lv_at hl 1 rfl) ?_
      refine va_iald hx hb hK hP 9 0 rfl rfl h.1 dX7_comes_92 ?_
      have h := h.2
      refine lv_iconst (v := (5 : Int32)) hx hb dX7_comes_93 (by decide) ?_
      refine lv_icmp_gt (tgt := 106) hx hb dX7_comes_94 (by decide) (fun c_3 => ?_) (fun c_3 => ?_)
      · have h := h.1 c_3
        refine lv_iconst (v := (0 : Int32)) hx hb dX7_comes_106 (by decide) ?_
        exact W.zret (v := (0 : Int32)) hx hb hr rfl (fun t ht hW => ⟨⟨(0 : Int32), S0, rfl, h, by rw [ht]; exact hP, va_K.moved hW.alike hK, hD⟩, hS.F ht⟩) hS.2.2 dX7_comes_107
      · have h := h.2 c_3
        refine lv_aload_n hx hb dX7_comes_97 rfl (lv_at hl 0 rfl) ?_
        refine va_get (D := D) (ci := 7) (v := .int (S0.1 5)) (C := RX7) (T := TX7) (N := 33) hx hb hts in_Mo hown hK hP 0 rfl rfl 5 (by decide) ln_70 (fun _ h9 => h9) rfl dX7_comes_98 ?_
        refine lv_bipush (v := (8 : Int32)) hx hb dX7_comes_101 (by decide) ?_
        refine lv_icmp_ne (tgt := 108) hx hb dX7_comes_103 (by decide) (fun c_4 => ?_) (fun c_4 => ?_)
        · have h := h.1 c_4
          refine lv_aload_n hx hb dX7_comes_108 rfl (lv_at hl 0 rfl) ?_
          refine va_get (D := D) (ci := 7) (v := .ref (a 2)) (C := RX7) (T := TX7) (N := 33) hx hb hts in_Mo hown hK hP 0 rfl rfl 1 (by decide) ln_13 (fun _ h9 => h9) rfl dX7_comes_109 ?_
          refine lv_aload_n hx hb dX7_comes_112 rfl (lv_at hl 0 rfl) ?_
          refine va_get (D := D) (ci := 7) (v := .int (S0.1 5)) (C := RX7) (T := TX7) (N := 33) hx hb hts in_Mo hown hK hP 0 rfl rfl 5 (by decide) ln_70 (fun _ h9 => h9) rfl dX7_comes_113 ?_
          refine lv_aload_n hx hb dX7_comes_116 rfl (lv_at hl 0 rfl) ?_
          refine va_get (D := D) (ci := 7) (v := .ref (a 9)) (C := RX7) (T := TX7) (N := 33) hx hb hts in_Mo hown hK hP 0 rfl rfl 10 (by decide) ln_34 (fun _ h9 => h9) rfl dX7_comes_117 ?_
          refine lv_iload_n hx hb dX7_comes_120 rfl (lv_at hl 1 rfl) ?_
          refine va_iald hx hb hK hP 9 0 rfl rfl h.1 dX7_comes_121 ?_
          have h := h.2
          refine va_iast hx hb hK hP hD hS 2 0 rfl rfl h.1 dX7_comes_122 (fun H locs hP hD hS => ?_)
          have h := h.2
          obtain ⟨S_5, e_6⟩ : ∃ z : St, z = (sA S0 1 (S0.1 5).toNatClampNeg (S0.2 10 x1.toNatClampNeg)) := ⟨_, rfl⟩
          have h := h S_5 e_6
          have hP : va_P D vwCl (wMo k a S_5) H := by rw [e_6]; exact hP
          have hD : va_D A (wMo k a S_5) := by rw [e_6]; exact hD
          refine lv_aload_n hx hb dX7_comes_123 rfl (lv_at hl 0 rfl) ?_
          refine va_get (D := D) (ci := 7) (v := .ref (a 3)) (C := RX7) (T := TX7) (N := 33) hx hb hts in_Mo hown hK hP 0 rfl rfl 2 (by decide) ln_16 (fun _ h9 => h9) rfl dX7_comes_124 ?_
          refine lv_aload_n hx hb dX7_comes_127 rfl (lv_at hl 0 rfl) ?_
          refine va_get (D := D) (ci := 7) (v := .int (S_5.1 5)) (C := RX7) (T := TX7) (N := 33) hx hb hts in_Mo hown hK hP 0 rfl rfl 5 (by decide) ln_70 (fun _ h9 => h9) rfl dX7_comes_128 ?_
          refine lv_aload_n hx hb dX7_comes_131 rfl (lv_at hl 0 rfl) ?_
          refine va_get (D := D) (ci := 7) (v := .ref (a 10)) (C := RX7) (T := TX7) (N := 33) hx hb hts in_Mo hown hK hP 0 rfl rfl 11 (by decide) ln_37 (fun _ h9 => h9) rfl dX7_comes_132 ?_
          refine lv_iload_n hx hb dX7_comes_135 rfl (lv_at hl 1 rfl) ?_
          refine va_iald hx hb hK hP 10 0 rfl rfl h.1 dX7_comes_136 ?_
          have h := h.2
          refine va_iast hx hb hK hP hD hS 3 0 rfl rfl h.1 dX7_comes_137 (fun H locs hP hD hS => ?_)
          have h := h.2
          obtain ⟨S_7, e_8⟩ : ∃ z : St, z = (sA S_5 2 (S_5.1 5).toNatClampNeg (S_5.2 11 x1.toNatClampNeg)) := ⟨_, rfl⟩
          have h := h S_7 e_8
          have hP : va_P D vwCl (wMo k a S_7) H := by rw [e_8]; exact hP
          have hD : va_D A (wMo k a S_7) := by rw [e_8]; exact hD
          refine lv_aload_n hx hb dX7_comes_138 rfl (lv_at hl 0 rfl) ?_
          refine va_get (D := D) (ci := 7) (v := .ref (a 4)) (C := RX7) (T := TX7) (N := 33) hx hb hts in_Mo hown hK hP 0 rfl rfl 3 (by decide) ln_19 (fun _ h9 => h9) rfl dX7_comes_139 ?_
          refine lv_aload_n hx hb dX7_comes_142 rfl (lv_at hl 0 rfl) ?_
          refine va_get (D := D) (ci := 7) (v := .int (S_7.1 5)) (C := RX7) (T := TX7) (N := 33) hx hb hts in_Mo hown hK hP 0 rfl rfl 5 (by decide) ln_70 (fun _ h9 => h9) rfl dX7_comes_143 ?_
          refine lv_iconst (v := (0 : Int32)) hx hb dX7_comes_146 (by decide) ?_
          refine va_iast hx hb hK hP hD hS 4 0 rfl rfl h.1 dX7_comes_147 (fun H locs hP hD hS => ?_)
          have h := h.2
          obtain ⟨S_9, e_10⟩ : ∃ z : St, z = (sA S_7 3 (S_7.1 5).toNatClampNeg (0 : Int32)) := ⟨_, rfl⟩
          have h := h S_9 e_10
          have hP : va_P D vwCl (wMo k a S_9) H := by rw [e_10]; exact hP
          have hD : va_D A (wMo k a S_9) := by rw [e_10]; exact hD
          refine lv_aload_n hx hb dX7_comes_148 rfl (lv_at hl 0 rfl) ?_
          refine va_get (D := D) (ci := 7) (v := .ref (a 5)) (C := RX7) (T := TX7) (N := 33) hx hb hts in_Mo hown hK hP 0 rfl rfl 4 (by decide) ln_22 (fun _ h9 => h9) rfl dX7_comes_149 ?_
          refine lv_aload_n hx hb dX7_comes_152 rfl (lv_at hl 0 rfl) ?_
          refine va_get (D := D) (ci := 7) (v := .int (S_9.1 5)) (C := RX7) (T := TX7) (N := 33) hx hb hts in_Mo hown hK hP 0 rfl rfl 5 (by decide) ln_70 (fun _ h9 => h9) rfl dX7_comes_153 ?_
          refine lv_iconst (v := (0 : Int32)) hx hb dX7_comes_156 (by decide) ?_
          refine va_iast hx hb hK hP hD hS 5 0 rfl rfl h.1 dX7_comes_157 (fun H locs hP hD hS => ?_)
          have h := h.2
          obtain ⟨S_11, e_12⟩ : ∃ z : St, z = (sA S_9 4 (S_9.1 5).toNatClampNeg (0 : Int32)) := ⟨_, rfl⟩
          have h := h S_11 e_12
          have hP : va_P D vwCl (wMo k a S_11) H := by rw [e_12]; exact hP
          have hD : va_D A (wMo k a S_11) := by rw [e_12]; exact hD
          refine lv_aload_n hx hb dX7_comes_158 rfl (lv_at hl 0 rfl) ?_
          refine lv_dup hx hb dX7_comes_159 rfl ?_
          refine va_get (D := D) (ci := 7) (v := .int (S_11.1 5)) (C := RX7) (T := TX7) (N := 33) hx hb hts in_Mo hown hK hP 0 rfl rfl 5 (by decide) ln_70 (fun _ h9 => h9) rfl dX7_comes_160 ?_
          refine lv_iconst (v := (1 : Int32)) hx hb dX7_comes_163 (by decide) ?_
          refine lv_iadd hx hb dX7_comes_164 ?_
          refine va_put (D := D) (ci := 7) (v := .int ((S_11.1 5) + (1 : Int32))) (ty := .int) (C := RX7) (T := TX7) (N := 33) hx hb hts in_Mo tyX7 tyX7_ok nmX7 hown hK hP hD hS 0 rfl rfl 5 (by decide) ln_70 (fun _ h9 => h9) rfl (by decide +kernel) rfl rfl (Nat.le_of_ble_eq_true rfl) dX7_comes_165 (fun H locs hP hD hS => ?_)
          obtain ⟨S_13, e_14⟩ : ∃ z : St, z = (sI S_11 5 ((S_11.1 5) + (1 : Int32))) := ⟨_, rfl⟩
          have h := h S_13 e_14
          have hP : va_P D vwCl (wMo k a S_13) H := by rw [e_14]; exact hP
          have hD : va_D A (wMo k a S_13) := by rw [e_14]; exact hD
          refine lv_iconst (v := (1 : Int32)) hx hb dX7_comes_168 (by decide) ?_
          exact W.zret (v := (1 : Int32)) hx hb hr rfl (fun t ht hW => ⟨⟨(1 : Int32), S_13, rfl, h, by rw [ht]; exact hP, va_K.moved hW.alike hK, hD⟩, hS.F ht⟩) hS.2.2 dX7_comes_169
        · have h := h.2 c_4
          refine lv_iconst (v := (0 : Int32)) hx hb dX7_comes_106 (by decide) ?_
          exact W.zret (v := (0 : Int32)) hx hb hr rfl (fun t ht hW => ⟨⟨(0 : Int32), S0, rfl, h, by rw [ht]; exact hP, va_K.moved hW.alike hK, hD⟩, hS.F ht⟩) hS.2.2 dX7_comes_107
    · have h := h.2 c_2
      refine lv_aload_n hx hb dX7_comes_48 rfl (lv_at hl 0 rfl) ?_
      refine lv_aload_n hx hb dX7_comes_49 rfl (lv_at hl 0 rfl) ?_
      refine va_get (D := D) (ci := 7) (v := .ref (a 9)) (C := RX7) (T := TX7) (N := 33) hx hb hts in_Mo hown hK hP 0 rfl rfl 10 (by decide) ln_34 (fun _ h9 => h9) rfl dX7_comes_50 ?_
      refine lv_iload_n hx hb dX7_comes_53 rfl (lv_at hl 1 rfl) ?_
      refine va_iald hx hb hK hP 9 0 rfl rfl h.1 dX7_comes_54 ?_
      have h := h.2
      refine lv_aload_n hx hb dX7_comes_55 rfl (lv_at hl 0 rfl) ?_
      refine va_get (D := D) (ci := 7) (v := .ref (a 10)) (C := RX7) (T := TX7) (N := 33) hx hb hts in_Mo hown hK hP 0 rfl rfl 11 (by decide) ln_37 (fun _ h9 => h9) rfl dX7_comes_56 ?_
      refine lv_iload_n hx hb dX7_comes_59 rfl (lv_at hl 1 rfl) ?_
      refine va_iald hx hb hK hP 10 0 rfl rfl h.1 dX7_comes_60 ?_
      have h := h.2
      have hFc := fr_self hD hS hA
      refine gv_i (va_runV (As := [.int (S0.2 10 x1.toNatClampNeg), .int (S0.2 11 x1.toNatClampNeg)]) (rest := []) ⟨hx, hb, hml, hown, hts⟩ (c_X7_areTwo l D k a S0 H.size (S0.2 10 x1.toNatClampNeg) (S0.2 11 x1.toNatClampNeg) _ h) (cwV 2 hts gX7_comes_X7_areTwo rfl rfl rfl (by decide +kernel) ⟨Nat.le_of_ble_eq_true rfl, Nat.le_of_ble_eq_true rfl⟩) (gv_preV hK hnw hP hD (ci := 7) rfl 0 rfl) rfl rfl hl.1 rfl (lv_room (Nat.le_of_ble_eq_true rfl)) dX7_comes_61 ⟨Nat.zero_le _, Nat.zero_le _⟩) hS hFc (fun r_15 u_16 H locs h hP1 hD1 hk1 hS => ?_)
      have hP := hP1
      have hD := hD1.weaken (fun _ _ _ z => hFc _ z)
      refine lv_if_ne (tgt := 69) hx hb dX7_comes_64 (by decide) (fun c_17 => ?_) (fun c_17 => ?_)
      · have h := h.1 c_17
        refine lv_aload_n hx hb dX7_comes_69 rfl (lv_at hl 0 rfl) ?_
        refine lv_aload_n hx hb dX7_comes_70 rfl (lv_at hl 0 rfl) ?_
        refine va_get (D := D) (ci := 7) (v := .ref (a 9)) (C := RX7) (T := TX7) (N := 33) hx hb hts in_Mo hown hK hP 0 rfl rfl 10 (by decide) ln_34 (fun _ h9 => h9) rfl dX7_comes_71 ?_
        refine lv_iload_n hx hb dX7_comes_74 rfl (lv_at hl 1 rfl) ?_
        refine va_iald hx hb hK hP 9 0 rfl rfl h.1 dX7_comes_75 ?_
        have h := h.2
        refine lv_aload_n hx hb dX7_comes_76 rfl (lv_at hl 0 rfl) ?_
        refine va_get (D := D) (ci := 7) (v := .ref (a 10)) (C := RX7) (T := TX7) (N := 33) hx hb hts in_Mo hown hK hP 0 rfl rfl 11 (by decide) ln_37 (fun _ h9 => h9) rfl dX7_comes_77 ?_
        refine lv_iload_n hx hb dX7_comes_80 rfl (lv_at hl 1 rfl) ?_
        refine va_iald hx hb hK hP 10 0 rfl rfl h.1 dX7_comes_81 ?_
        have h := h.2
        have hFc := fr_self hD hS hA
        refine gv_v (va_runV (As := [.int (u_16.2 10 x1.toNatClampNeg), .int (u_16.2 11 x1.toNatClampNeg)]) (rest := []) ⟨hx, hb, hml, hown, hts⟩ (c_X7_joins l D k a u_16 H.size (u_16.2 10 x1.toNatClampNeg) (u_16.2 11 x1.toNatClampNeg) _ h) (cwV 2 hts gX7_comes_X7_joins rfl rfl rfl (by decide +kernel) ⟨Nat.le_of_ble_eq_true rfl, Nat.le_of_ble_eq_true rfl⟩) (gv_preV hK hnw hP hD (ci := 7) rfl 0 rfl) rfl rfl hl.1 rfl (lv_room (Nat.le_of_ble_eq_true rfl)) dX7_comes_82 ⟨Nat.zero_le _, Nat.zero_le _⟩) hS hFc (fun u_19 H locs h hP1 hD1 hk1 hS => ?_)
        have hP := hP1
        have hD := hD1.weaken (fun _ _ _ z => hFc _ z)
        refine lv_iconst (v := (1 : Int32)) hx hb dX7_comes_85 (by decide) ?_
        exact W.zret (v := (1 : Int32)) hx hb hr rfl (fun t ht hW => ⟨⟨(1 : Int32), u_19, rfl, h, by rw [ht]; exact hP, va_K.moved hW.alike hK, hD⟩, hS.F ht⟩) hS.2.2 dX7_comes_86
      · have h := h.2 c_17
        refine lv_iconst (v := (0 : Int32)) hx hb dX7_comes_67 (by decide) ?_
        exact W.zret (v := (0 : Int32)) hx hb hr rfl (fun t ht hW => ⟨⟨(0 : Int32), u_16, rfl, h, by rw [ht]; exact hP, va_K.moved hW.alike hK, hD⟩, hS.F ht⟩) hS.2.2 dX7_comes_68
  · have h := h.2 c_1
    refine lv_aload_n hx hb dX7_comes_11 rfl (lv_at hl 0 rfl) ?_
    refine lv_aload_n hx hb dX7_comes_12 rfl (lv_at hl 0 rfl) ?_
    refine va_get (D := D) (ci := 7) (v := .ref (a 9)) (C := RX7) (T := TX7) (N := 33) hx hb hts in_Mo hown hK hP 0 rfl rfl 10 (by decide) ln_34 (fun _ h9 => h9) rfl dX7_comes_13 ?_
    refine lv_iload_n hx hb dX7_comes_16 rfl (lv_at hl 1 rfl) ?_
    refine va_iald hx hb hK hP 9 0 rfl rfl h.1 dX7_comes_17 ?_
    have h := h.2
    refine va_put (D := D) (ci := 7) (v := .int (S0.2 10 x1.toNatClampNeg)) (ty := .int) (C := RX7) (T := TX7) (N := 33) hx hb hts in_Mo tyX7 tyX7_ok nmX7 hown hK hP hD hS 0 rfl rfl 6 (by decide) ln_109 (fun _ h9 => h9) rfl (by decide +kernel) rfl rfl (Nat.le_of_ble_eq_true rfl) dX7_comes_18 (fun H locs hP hD hS => ?_)
    obtain ⟨S_20, e_21⟩ : ∃ z : St, z = (sI S0 6 (S0.2 10 x1.toNatClampNeg)) := ⟨_, rfl⟩
    have h := h S_20 e_21
    have hP : va_P D vwCl (wMo k a S_20) H := by rw [e_21]; exact hP
    have hD : va_D A (wMo k a S_20) := by rw [e_21]; exact hD
    refine lv_aload_n hx hb dX7_comes_21 rfl (lv_at hl 0 rfl) ?_
    refine va_get (D := D) (ci := 7) (v := .ref (a 9)) (C := RX7) (T := TX7) (N := 33) hx hb hts in_Mo hown hK hP 0 rfl rfl 10 (by decide) ln_34 (fun _ h9 => h9) rfl dX7_comes_22 ?_
    refine lv_iload_n hx hb dX7_comes_25 rfl (lv_at hl 1 rfl) ?_
    refine va_iald hx hb hK hP 9 0 rfl rfl h.1 dX7_comes_26 ?_
    have h := h.2
    refine lv_iconst (v := (3 : Int32)) hx hb dX7_comes_27 (by decide) ?_
    refine lv_icmp_ge (tgt := 35) hx hb dX7_comes_28 (by decide) (fun c_22 => ?_) (fun c_22 => ?_)
    · have h := h.1 c_22
      refine lv_iconst (v := (0 : Int32)) hx hb dX7_comes_35 (by decide) ?_
      exact W.zret (v := (0 : Int32)) hx hb hr rfl (fun t ht hW => ⟨⟨(0 : Int32), S_20, rfl, h, by rw [ht]; exact hP, va_K.moved hW.alike hK, hD⟩, hS.F ht⟩) hS.2.2 dX7_comes_36
    · have h := h.2 c_22
      refine lv_iconst (v := (1 : Int32)) hx hb dX7_comes_31 (by decide) ?_
      refine lv_goto (tgt := 36) hx hb dX7_comes_32 (by decide) ?_
      exact W.zret (v := (1 : Int32)) hx hb hr rfl (fun t ht hW => ⟨⟨(1 : Int32), S_20, rfl, h, by rw [ht]; exact hP, va_K.moved hW.alike hK, hD⟩, hS.F ht⟩) hS.2.2 dX7_comes_36
/-! X7_passes_1 -/
def wp_X7_passes_1_42 (K2 : St → Int32 → Prop) (Q : St → Prop) (S0 : St) (x2 : Int32) : Prop := ∀ S_5, S_5 = (sI S0 18 ((S0.1 18) + (1 : Int32))) → (K2 S_5 (x2 + 1))
def wp_X7_passes_1_2 (Q : St → Prop) : Nat → St → Int32 → Prop
  | 0, _, _ => False
  | n + 1, S0, x2 => (((8 : Int32) ≤ x2) → (Q S0)) ∧ ((¬ (8 : Int32) ≤ x2) → ((((S0.1 17) = 0) → (vp_in (S0.1 18) 400 ∧ (vp_in x2 8 ∧ (∀ S_3, S_3 = (sA S0 1 x2.toNatClampNeg (S0.2 15 (S0.1 18).toNatClampNeg)) → (wp_X7_passes_1_42 (fun s0 v0 => wp_X7_passes_1_2 Q n s0 v0) Q S_3 x2))))) ∧ ((¬ (S0.1 17) = 0) → (vp_in x2 8 ∧ (vp_in (S0.1 18) 400 ∧ (∀ S_7, S_7 = (sA S0 15 (S0.1 18).toNatClampNeg (S0.2 1 x2.toNatClampNeg)) → (wp_X7_passes_1_42 (fun s0 v0 => wp_X7_passes_1_2 Q n s0 v0) Q S_7 x2)))))))
def wp_X7_passes_1 (S0 : St) (Q : St → Prop) : Prop := ∃ i, wp_X7_passes_1_2 Q i S0 (0 : Int32)
abbrev rmX7_passes_1 : Room := { frames := 0, cells := 0, slots := 0, locals := 0 }
set_option maxRecDepth 100000 in
set_option maxHeartbeats 4000000 in
theorem c_X7_passes_1 (l : Launch) (D : va_G) (k : Nat → ClassId) (a : Nat → Nat) (S0 : St) (sz : Nat) (Q : St → Prop) (h : wp_X7_passes_1 S0 Q) : Met l yX7_passes wsX7_passes rmX7_passes_1 (cPc D k (wMo k a S0) [.ref (a 0), .ref (a 2)] sz) (va_Qv (fun (u : St) => Q u) (cB D k (va_A (wMo k a S0) sz) (fun u : St => wMo k a u)) (va_A (wMo k a S0) sz)) 0 0 (va_A (wMo k a S0) sz) := by
  refine ct_entry (cc := cX7_passes) (maxL := 3) (ret := none) (Rn := RX7) (Qc := fun A => (va_Qv (fun (u : St) => Q u) (cB D k A (fun u : St => wMo k a u)) A)) (by decide) rfl rfl (Nat.le_of_ble_eq_true rfl) ?_
  intro p e s m below meth c hx hb hr hlocks hml hts hown hnw hK A hA H locs hP hD hS ls hl
  have hl : lv_has ls 3 [(0, .ref (a 0)), (1, .ref (a 2))] := hl
  have ln_131 := hts (.fieldLink RX7 131 "WithTheSameOneModel" "isKeeping" "Z") (by decide +kernel)
  have ln_135 := hts (.fieldLink RX7 135 "WithTheSameOneModel" "cursor" "I") (by decide +kernel)
  have ln_40 := hts (.fieldLink RX7 40 "WithTheSameOneModel" "kept" "[I") (by decide +kernel)
  have in_Mo : ∀ w ∈ wsX70, w ∈ wsX7_passes := fun _ h => List.mem_cons_of_mem _ (List.mem_append_right _ h)
  have L_42 : ∀ (K2 : St → Int32 → Prop), (∀ (S0 : St) (x2 : Int32), ∀ (H : Heap) (locs : List Loc) (ls : Array Slot), va_P D vwCl (wMo k a S0) H → va_D A (wMo k a S0) → va_S A s.heap H locs → lv_has ls 3 [(0, .ref (a 0)), (1, .ref (a 2)), (2, .int x2)] → K2 S0 x2 → W p l e rmX7_passes_1 s m ([.ref (a 0), .ref (a 2)] : List Value).toArray below meth c H locs 0 0 (MQ below (va_Qv (fun (u : St) => Q u) (cB D k A (fun u : St => wMo k a u)) A) ([.ref (a 0), .ref (a 2)] : List Value).toArray s 0 0 A) (F0 m 2 ls [])) → ∀ (S0 : St) (x2 : Int32), ∀ (H : Heap) (locs : List Loc) (ls : Array Slot), va_P D vwCl (wMo k a S0) H → va_D A (wMo k a S0) → va_S A s.heap H locs → lv_has ls 3 [(0, .ref (a 0)), (1, .ref (a 2)), (2, .int x2)] → wp_X7_passes_1_42 K2 Q S0 x2 → W p l e rmX7_passes_1 s m ([.ref (a 0), .ref (a 2)] : List Value).toArray below meth c H locs 0 0 (MQ below (va_Qv (fun (u : St) => Q u) (cB D k A (fun u : St => wMo k a u)) A) ([.ref (a 0), .ref (a 2)] : List Value).toArray s 0 0 A) (F0 m 42 ls []) := by
    intro K2 hK2 S0 x2 H locs ls hP hD hS hl h
    unfold wp_X7_passes_1_42 at h
    refine lv_aload_n hx hb dX7_passes_42 rfl (lv_at hl 0 rfl) ?_
    refine lv_dup hx hb dX7_passes_43 rfl ?_
    refine va_get (D := D) (ci := 7) (v := .int (S0.1 18)) (C := RX7) (T := TX7) (N := 33) hx hb hts in_Mo hown hK hP 0 rfl rfl 18 (by decide) ln_135 (fun _ h9 => h9) rfl dX7_passes_44 ?_
    refine lv_iconst (v := (1 : Int32)) hx hb dX7_passes_47 (by decide) ?_
    refine lv_iadd hx hb dX7_passes_48 ?_
    refine va_put (D := D) (ci := 7) (v := .int ((S0.1 18) + (1 : Int32))) (ty := .int) (C := RX7) (T := TX7) (N := 33) hx hb hts in_Mo tyX7 tyX7_ok nmX7 hown hK hP hD hS 0 rfl rfl 18 (by decide) ln_135 (fun _ h9 => h9) rfl (by decide +kernel) rfl rfl (Nat.le_of_ble_eq_true rfl) dX7_passes_49 (fun H locs hP hD hS => ?_)
    obtain ⟨S_5, e_6⟩ : ∃ z : St, z = (sI S0 18 ((S0.1 18) + (1 : Int32))) := ⟨_, rfl⟩
    have h := h S_5 e_6
    have hP : va_P D vwCl (wMo k a S_5) H := by rw [e_6]; exact hP
    have hD : va_D A (wMo k a S_5) := by rw [e_6]; exact hD
    refine lv_iinc (v := (x2 + 1)) (lv' := [(2, .int (x2 + 1)), (0, .ref (a 0)), (1, .ref (a 2))]) hx hb dX7_passes_52 hl (k := 2) rfl rfl (by decide) rfl (fun ls hl => ?_)
    refine lv_goto (tgt := 2) hx hb dX7_passes_55 (by decide) ?_
    exact hK2 S_5 (x2 + 1) H locs ls hP hD hS (lv_sub hl [1, 2, 0] rfl) h
  have L_2 : ∀ (n : Nat), ∀ (S0 : St) (x2 : Int32), ∀ (H : Heap) (locs : List Loc) (ls : Array Slot), va_P D vwCl (wMo k a S0) H → va_D A (wMo k a S0) → va_S A s.heap H locs → lv_has ls 3 [(0, .ref (a 0)), (1, .ref (a 2)), (2, .int x2)] → wp_X7_passes_1_2 Q n S0 x2 → W p l e rmX7_passes_1 s m ([.ref (a 0), .ref (a 2)] : List Value).toArray below meth c H locs 0 0 (MQ below (va_Qv (fun (u : St) => Q u) (cB D k A (fun u : St => wMo k a u)) A) ([.ref (a 0), .ref (a 2)] : List Value).toArray s 0 0 A) (F0 m 2 ls []) := by
    intro n
    induction n with
    | zero => intro S0 x2 H locs ls hP hD hS hl h; exact absurd h (by unfold wp_X7_passes_1_2; exact id)
    | succ n ih =>
      intro S0 x2 H locs ls hP hD hS hl h
      unfold wp_X7_passes_1_2 at h
      refine lv_iload_n hx hb dX7_passes_2 rfl (lv_at hl 2 rfl) ?_
      refine lv_aload_n hx hb dX7_passes_3 rfl (lv_at hl 1 rfl) ?_
      refine va_alen hx hb hK hP 2 0 rfl rfl (v := (8 : Int32)) rfl dX7_passes_4 ?_
      refine lv_icmp_ge (tgt := 58) hx hb dX7_passes_5 (by decide) (fun c_1 => ?_) (fun c_1 => ?_)
      · have h := h.1 c_1
        exact W.vret hx hb hr (fun t ht hW => ⟨⟨S0, rfl, h, by rw [ht]; exact hP, va_K.moved hW.alike hK, hD⟩, hS.F ht⟩) hS.2.2 dX7_passes_58
      · have h := h.2 c_1
        refine lv_aload_n hx hb dX7_passes_8 rfl (lv_at hl 0 rfl) ?_
        refine va_get (D := D) (ci := 7) (v := .int (S0.1 17)) (C := RX7) (T := TX7) (N := 33) hx hb hts in_Mo hown hK hP 0 rfl rfl 17 (by decide) ln_131 (fun _ h9 => h9) rfl dX7_passes_9 ?_
        refine lv_if_eq (tgt := 30) hx hb dX7_passes_12 (by decide) (fun c_2 => ?_) (fun c_2 => ?_)
        · have h := h.1 c_2
          refine lv_aload_n hx hb dX7_passes_30 rfl (lv_at hl 1 rfl) ?_
          refine lv_iload_n hx hb dX7_passes_31 rfl (lv_at hl 2 rfl) ?_
          refine lv_aload_n hx hb dX7_passes_32 rfl (lv_at hl 0 rfl) ?_
          refine va_get (D := D) (ci := 7) (v := .ref (a 11)) (C := RX7) (T := TX7) (N := 33) hx hb hts in_Mo hown hK hP 0 rfl rfl 15 (by decide) ln_40 (fun _ h9 => h9) rfl dX7_passes_33 ?_
          refine lv_aload_n hx hb dX7_passes_36 rfl (lv_at hl 0 rfl) ?_
          refine va_get (D := D) (ci := 7) (v := .int (S0.1 18)) (C := RX7) (T := TX7) (N := 33) hx hb hts in_Mo hown hK hP 0 rfl rfl 18 (by decide) ln_135 (fun _ h9 => h9) rfl dX7_passes_37 ?_
          refine va_iald hx hb hK hP 11 0 rfl rfl h.1 dX7_passes_40 ?_
          have h := h.2
          refine va_iast hx hb hK hP hD hS 2 0 rfl rfl h.1 dX7_passes_41 (fun H locs hP hD hS => ?_)
          have h := h.2
          obtain ⟨S_3, e_4⟩ : ∃ z : St, z = (sA S0 1 x2.toNatClampNeg (S0.2 15 (S0.1 18).toNatClampNeg)) := ⟨_, rfl⟩
          have h := h S_3 e_4
          have hP : va_P D vwCl (wMo k a S_3) H := by rw [e_4]; exact hP
          have hD : va_D A (wMo k a S_3) := by rw [e_4]; exact hD
          exact L_42 (fun s0 v0 => wp_X7_passes_1_2 Q n s0 v0) ih S_3 x2 H locs ls hP hD hS (lv_sub hl [0, 1, 2] rfl) h
        · have h := h.2 c_2
          refine lv_aload_n hx hb dX7_passes_15 rfl (lv_at hl 0 rfl) ?_
          refine va_get (D := D) (ci := 7) (v := .ref (a 11)) (C := RX7) (T := TX7) (N := 33) hx hb hts in_Mo hown hK hP 0 rfl rfl 15 (by decide) ln_40 (fun _ h9 => h9) rfl dX7_passes_16 ?_
          refine lv_aload_n hx hb dX7_passes_19 rfl (lv_at hl 0 rfl) ?_
          refine va_get (D := D) (ci := 7) (v := .int (S0.1 18)) (C := RX7) (T := TX7) (N := 33) hx hb hts in_Mo hown hK hP 0 rfl rfl 18 (by decide) ln_135 (fun _ h9 => h9) rfl dX7_passes_20 ?_
          refine lv_aload_n hx hb dX7_passes_23 rfl (lv_at hl 1 rfl) ?_
          refine lv_iload_n hx hb dX7_passes_24 rfl (lv_at hl 2 rfl) ?_
          refine va_iald hx hb hK hP 2 0 rfl rfl h.1 dX7_passes_25 ?_
          have h := h.2
          refine va_iast hx hb hK hP hD hS 11 0 rfl rfl h.1 dX7_passes_26 (fun H locs hP hD hS => ?_)
          have h := h.2
          obtain ⟨S_7, e_8⟩ : ∃ z : St, z = (sA S0 15 (S0.1 18).toNatClampNeg (S0.2 1 x2.toNatClampNeg)) := ⟨_, rfl⟩
          have h := h S_7 e_8
          have hP : va_P D vwCl (wMo k a S_7) H := by rw [e_8]; exact hP
          have hD : va_D A (wMo k a S_7) := by rw [e_8]; exact hD
          refine lv_goto (tgt := 42) hx hb dX7_passes_27 (by decide) ?_
          exact L_42 (fun s0 v0 => wp_X7_passes_1_2 Q n s0 v0) ih S_7 x2 H locs ls hP hD hS (lv_sub hl [0, 1, 2] rfl) h
  unfold wp_X7_passes_1 at h
  refine lv_iconst (v := (0 : Int32)) hx hb dX7_passes_0 (by decide) ?_
  refine lv_istore_n (lv' := [(2, .int (0 : Int32)), (0, .ref (a 0)), (1, .ref (a 2))]) hx hb dX7_passes_1 rfl hl (by decide) rfl (fun ls hl => ?_)
  obtain ⟨n_9, h⟩ := h
  exact L_2 n_9 S0 (0 : Int32) H locs ls hP hD hS (lv_sub hl [1, 2, 0] rfl) h
/-! X7_passes_2 -/
def wp_X7_passes_2_42 (K2 : St → Int32 → Prop) (Q : St → Prop) (S0 : St) (x2 : Int32) : Prop := ∀ S_5, S_5 = (sI S0 18 ((S0.1 18) + (1 : Int32))) → (K2 S_5 (x2 + 1))
def wp_X7_passes_2_2 (Q : St → Prop) : Nat → St → Int32 → Prop
  | 0, _, _ => False
  | n + 1, S0, x2 => (((8 : Int32) ≤ x2) → (Q S0)) ∧ ((¬ (8 : Int32) ≤ x2) → ((((S0.1 17) = 0) → (vp_in (S0.1 18) 400 ∧ (vp_in x2 8 ∧ (∀ S_3, S_3 = (sA S0 2 x2.toNatClampNeg (S0.2 15 (S0.1 18).toNatClampNeg)) → (wp_X7_passes_2_42 (fun s0 v0 => wp_X7_passes_2_2 Q n s0 v0) Q S_3 x2))))) ∧ ((¬ (S0.1 17) = 0) → (vp_in x2 8 ∧ (vp_in (S0.1 18) 400 ∧ (∀ S_7, S_7 = (sA S0 15 (S0.1 18).toNatClampNeg (S0.2 2 x2.toNatClampNeg)) → (wp_X7_passes_2_42 (fun s0 v0 => wp_X7_passes_2_2 Q n s0 v0) Q S_7 x2)))))))
def wp_X7_passes_2 (S0 : St) (Q : St → Prop) : Prop := ∃ i, wp_X7_passes_2_2 Q i S0 (0 : Int32)
abbrev rmX7_passes_2 : Room := { frames := 0, cells := 0, slots := 0, locals := 0 }
set_option maxRecDepth 100000 in
set_option maxHeartbeats 4000000 in
theorem c_X7_passes_2 (l : Launch) (D : va_G) (k : Nat → ClassId) (a : Nat → Nat) (S0 : St) (sz : Nat) (Q : St → Prop) (h : wp_X7_passes_2 S0 Q) : Met l yX7_passes wsX7_passes rmX7_passes_2 (cPc D k (wMo k a S0) [.ref (a 0), .ref (a 3)] sz) (va_Qv (fun (u : St) => Q u) (cB D k (va_A (wMo k a S0) sz) (fun u : St => wMo k a u)) (va_A (wMo k a S0) sz)) 0 0 (va_A (wMo k a S0) sz) := by
  refine ct_entry (cc := cX7_passes) (maxL := 3) (ret := none) (Rn := RX7) (Qc := fun A => (va_Qv (fun (u : St) => Q u) (cB D k A (fun u : St => wMo k a u)) A)) (by decide) rfl rfl (Nat.le_of_ble_eq_true rfl) ?_
  intro p e s m below meth c hx hb hr hlocks hml hts hown hnw hK A hA H locs hP hD hS ls hl
  have hl : lv_has ls 3 [(0, .ref (a 0)), (1, .ref (a 3))] := hl
  have ln_131 := hts (.fieldLink RX7 131 "WithTheSameOneModel" "isKeeping" "Z") (by decide +kernel)
  have ln_135 := hts (.fieldLink RX7 135 "WithTheSameOneModel" "cursor" "I") (by decide +kernel)
  have ln_40 := hts (.fieldLink RX7 40 "WithTheSameOneModel" "kept" "[I") (by decide +kernel)
  have in_Mo : ∀ w ∈ wsX70, w ∈ wsX7_passes := fun _ h => List.mem_cons_of_mem _ (List.mem_append_right _ h)
  have L_42 : ∀ (K2 : St → Int32 → Prop), (∀ (S0 : St) (x2 : Int32), ∀ (H : Heap) (locs : List Loc) (ls : Array Slot), va_P D vwCl (wMo k a S0) H → va_D A (wMo k a S0) → va_S A s.heap H locs → lv_has ls 3 [(0, .ref (a 0)), (1, .ref (a 3)), (2, .int x2)] → K2 S0 x2 → W p l e rmX7_passes_2 s m ([.ref (a 0), .ref (a 3)] : List Value).toArray below meth c H locs 0 0 (MQ below (va_Qv (fun (u : St) => Q u) (cB D k A (fun u : St => wMo k a u)) A) ([.ref (a 0), .ref (a 3)] : List Value).toArray s 0 0 A) (F0 m 2 ls [])) → ∀ (S0 : St) (x2 : Int32), ∀ (H : Heap) (locs : List Loc) (ls : Array Slot), va_P D vwCl (wMo k a S0) H → va_D A (wMo k a S0) → va_S A s.heap H locs → lv_has ls 3 [(0, .ref (a 0)), (1, .ref (a 3)), (2, .int x2)] → wp_X7_passes_2_42 K2 Q S0 x2 → W p l e rmX7_passes_2 s m ([.ref (a 0), .ref (a 3)] : List Value).toArray below meth c H locs 0 0 (MQ below (va_Qv (fun (u : St) => Q u) (cB D k A (fun u : St => wMo k a u)) A) ([.ref (a 0), .ref (a 3)] : List Value).toArray s 0 0 A) (F0 m 42 ls []) := by
    intro K2 hK2 S0 x2 H locs ls hP hD hS hl h
    unfold wp_X7_passes_2_42 at h
    refine lv_aload_n hx hb dX7_passes_42 rfl (lv_at hl 0 rfl) ?_
    refine lv_dup hx hb dX7_passes_43 rfl ?_
    refine va_get (D := D) (ci := 7) (v := .int (S0.1 18)) (C := RX7) (T := TX7) (N := 33) hx hb hts in_Mo hown hK hP 0 rfl rfl 18 (by decide) ln_135 (fun _ h9 => h9) rfl dX7_passes_44 ?_
    refine lv_iconst (v := (1 : Int32)) hx hb dX7_passes_47 (by decide) ?_
    refine lv_iadd hx hb dX7_passes_48 ?_
    refine va_put (D := D) (ci := 7) (v := .int ((S0.1 18) + (1 : Int32))) (ty := .int) (C := RX7) (T := TX7) (N := 33) hx hb hts in_Mo tyX7 tyX7_ok nmX7 hown hK hP hD hS 0 rfl rfl 18 (by decide) ln_135 (fun _ h9 => h9) rfl (by decide +kernel) rfl rfl (Nat.le_of_ble_eq_true rfl) dX7_passes_49 (fun H locs hP hD hS => ?_)
    obtain ⟨S_5, e_6⟩ : ∃ z : St, z = (sI S0 18 ((S0.1 18) + (1 : Int32))) := ⟨_, rfl⟩
    have h := h S_5 e_6
    have hP : va_P D vwCl (wMo k a S_5) H := by rw [e_6]; exact hP
    have hD : va_D A (wMo k a S_5) := by rw [e_6]; exact hD
    refine lv_iinc (v := (x2 + 1)) (lv' := [(2, .int (x2 + 1)), (0, .ref (a 0)), (1, .ref (a 3))]) hx hb dX7_passes_52 hl (k := 2) rfl rfl (by decide) rfl (fun ls hl => ?_)
    refine lv_goto (tgt := 2) hx hb dX7_passes_55 (by decide) ?_
    exact hK2 S_5 (x2 + 1) H locs ls hP hD hS (lv_sub hl [1, 2, 0] rfl) h
  have L_2 : ∀ (n : Nat), ∀ (S0 : St) (x2 : Int32), ∀ (H : Heap) (locs : List Loc) (ls : Array Slot), va_P D vwCl (wMo k a S0) H → va_D A (wMo k a S0) → va_S A s.heap H locs → lv_has ls 3 [(0, .ref (a 0)), (1, .ref (a 3)), (2, .int x2)] → wp_X7_passes_2_2 Q n S0 x2 → W p l e rmX7_passes_2 s m ([.ref (a 0), .ref (a 3)] : List Value).toArray below meth c H locs 0 0 (MQ below (va_Qv (fun (u : St) => Q u) (cB D k A (fun u : St => wMo k a u)) A) ([.ref (a 0), .ref (a 3)] : List Value).toArray s 0 0 A) (F0 m 2 ls []) := by
    intro n
    induction n with
    | zero => intro S0 x2 H locs ls hP hD hS hl h; exact absurd h (by unfold wp_X7_passes_2_2; exact id)
    | succ n ih =>
      intro S0 x2 H locs ls hP hD hS hl h
      unfold wp_X7_passes_2_2 at h
      refine lv_iload_n hx hb dX7_passes_2 rfl (lv_at hl 2 rfl) ?_
      refine lv_aload_n hx hb dX7_passes_3 rfl (lv_at hl 1 rfl) ?_
      refine va_alen hx hb hK hP 3 0 rfl rfl (v := (8 : Int32)) rfl dX7_passes_4 ?_
      refine lv_icmp_ge (tgt := 58) hx hb dX7_passes_5 (by decide) (fun c_1 => ?_) (fun c_1 => ?_)
      · have h := h.1 c_1
        exact W.vret hx hb hr (fun t ht hW => ⟨⟨S0, rfl, h, by rw [ht]; exact hP, va_K.moved hW.alike hK, hD⟩, hS.F ht⟩) hS.2.2 dX7_passes_58
      · have h := h.2 c_1
        refine lv_aload_n hx hb dX7_passes_8 rfl (lv_at hl 0 rfl) ?_
        refine va_get (D := D) (ci := 7) (v := .int (S0.1 17)) (C := RX7) (T := TX7) (N := 33) hx hb hts in_Mo hown hK hP 0 rfl rfl 17 (by decide) ln_131 (fun _ h9 => h9) rfl dX7_passes_9 ?_
        refine lv_if_eq (tgt := 30) hx hb dX7_passes_12 (by decide) (fun c_2 => ?_) (fun c_2 => ?_)
        · have h := h.1 c_2
          refine lv_aload_n hx hb dX7_passes_30 rfl (lv_at hl 1 rfl) ?_
          refine lv_iload_n hx hb dX7_passes_31 rfl (lv_at hl 2 rfl) ?_
          refine lv_aload_n hx hb dX7_passes_32 rfl (lv_at hl 0 rfl) ?_
          refine va_get (D := D) (ci := 7) (v := .ref (a 11)) (C := RX7) (T := TX7) (N := 33) hx hb hts in_Mo hown hK hP 0 rfl rfl 15 (by decide) ln_40 (fun _ h9 => h9) rfl dX7_passes_33 ?_
          refine lv_aload_n hx hb dX7_passes_36 rfl (lv_at hl 0 rfl) ?_
          refine va_get (D := D) (ci := 7) (v := .int (S0.1 18)) (C := RX7) (T := TX7) (N := 33) hx hb hts in_Mo hown hK hP 0 rfl rfl 18 (by decide) ln_135 (fun _ h9 => h9) rfl dX7_passes_37 ?_
          refine va_iald hx hb hK hP 11 0 rfl rfl h.1 dX7_passes_40 ?_
          have h := h.2
          refine va_iast hx hb hK hP hD hS 3 0 rfl rfl h.1 dX7_passes_41 (fun H locs hP hD hS => ?_)
          have h := h.2
          obtain ⟨S_3, e_4⟩ : ∃ z : St, z = (sA S0 2 x2.toNatClampNeg (S0.2 15 (S0.1 18).toNatClampNeg)) := ⟨_, rfl⟩
          have h := h S_3 e_4
          have hP : va_P D vwCl (wMo k a S_3) H := by rw [e_4]; exact hP
          have hD : va_D A (wMo k a S_3) := by rw [e_4]; exact hD
          exact L_42 (fun s0 v0 => wp_X7_passes_2_2 Q n s0 v0) ih S_3 x2 H locs ls hP hD hS (lv_sub hl [0, 1, 2] rfl) h
        · have h := h.2 c_2
          refine lv_aload_n hx hb dX7_passes_15 rfl (lv_at hl 0 rfl) ?_
          refine va_get (D := D) (ci := 7) (v := .ref (a 11)) (C := RX7) (T := TX7) (N := 33) hx hb hts in_Mo hown hK hP 0 rfl rfl 15 (by decide) ln_40 (fun _ h9 => h9) rfl dX7_passes_16 ?_
          refine lv_aload_n hx hb dX7_passes_19 rfl (lv_at hl 0 rfl) ?_
          refine va_get (D := D) (ci := 7) (v := .int (S0.1 18)) (C := RX7) (T := TX7) (N := 33) hx hb hts in_Mo hown hK hP 0 rfl rfl 18 (by decide) ln_135 (fun _ h9 => h9) rfl dX7_passes_20 ?_
          refine lv_aload_n hx hb dX7_passes_23 rfl (lv_at hl 1 rfl) ?_
          refine lv_iload_n hx hb dX7_passes_24 rfl (lv_at hl 2 rfl) ?_
          refine va_iald hx hb hK hP 3 0 rfl rfl h.1 dX7_passes_25 ?_
          have h := h.2
          refine va_iast hx hb hK hP hD hS 11 0 rfl rfl h.1 dX7_passes_26 (fun H locs hP hD hS => ?_)
          have h := h.2
          obtain ⟨S_7, e_8⟩ : ∃ z : St, z = (sA S0 15 (S0.1 18).toNatClampNeg (S0.2 2 x2.toNatClampNeg)) := ⟨_, rfl⟩
          have h := h S_7 e_8
          have hP : va_P D vwCl (wMo k a S_7) H := by rw [e_8]; exact hP
          have hD : va_D A (wMo k a S_7) := by rw [e_8]; exact hD
          refine lv_goto (tgt := 42) hx hb dX7_passes_27 (by decide) ?_
          exact L_42 (fun s0 v0 => wp_X7_passes_2_2 Q n s0 v0) ih S_7 x2 H locs ls hP hD hS (lv_sub hl [0, 1, 2] rfl) h
  unfold wp_X7_passes_2 at h
  refine lv_iconst (v := (0 : Int32)) hx hb dX7_passes_0 (by decide) ?_
  refine lv_istore_n (lv' := [(2, .int (0 : Int32)), (0, .ref (a 0)), (1, .ref (a 3))]) hx hb dX7_passes_1 rfl hl (by decide) rfl (fun ls hl => ?_)
  obtain ⟨n_9, h⟩ := h
  exact L_2 n_9 S0 (0 : Int32) H locs ls hP hD hS (lv_sub hl [1, 2, 0] rfl) h
/-! X7_passes_3 -/
def wp_X7_passes_3_42 (K2 : St → Int32 → Prop) (Q : St → Prop) (S0 : St) (x2 : Int32) : Prop := ∀ S_5, S_5 = (sI S0 18 ((S0.1 18) + (1 : Int32))) → (K2 S_5 (x2 + 1))
def wp_X7_passes_3_2 (Q : St → Prop) : Nat → St → Int32 → Prop
  | 0, _, _ => False
  | n + 1, S0, x2 => (((8 : Int32) ≤ x2) → (Q S0)) ∧ ((¬ (8 : Int32) ≤ x2) → ((((S0.1 17) = 0) → (vp_in (S0.1 18) 400 ∧ (vp_in x2 8 ∧ (∀ S_3, S_3 = (sA S0 3 x2.toNatClampNeg (S0.2 15 (S0.1 18).toNatClampNeg)) → (wp_X7_passes_3_42 (fun s0 v0 => wp_X7_passes_3_2 Q n s0 v0) Q S_3 x2))))) ∧ ((¬ (S0.1 17) = 0) → (vp_in x2 8 ∧ (vp_in (S0.1 18) 400 ∧ (∀ S_7, S_7 = (sA S0 15 (S0.1 18).toNatClampNeg (S0.2 3 x2.toNatClampNeg)) → (wp_X7_passes_3_42 (fun s0 v0 => wp_X7_passes_3_2 Q n s0 v0) Q S_7 x2)))))))
def wp_X7_passes_3 (S0 : St) (Q : St → Prop) : Prop := ∃ i, wp_X7_passes_3_2 Q i S0 (0 : Int32)
abbrev rmX7_passes_3 : Room := { frames := 0, cells := 0, slots := 0, locals := 0 }
set_option maxRecDepth 100000 in
set_option maxHeartbeats 4000000 in
theorem c_X7_passes_3 (l : Launch) (D : va_G) (k : Nat → ClassId) (a : Nat → Nat) (S0 : St) (sz : Nat) (Q : St → Prop) (h : wp_X7_passes_3 S0 Q) : Met l yX7_passes wsX7_passes rmX7_passes_3 (cPc D k (wMo k a S0) [.ref (a 0), .ref (a 4)] sz) (va_Qv (fun (u : St) => Q u) (cB D k (va_A (wMo k a S0) sz) (fun u : St => wMo k a u)) (va_A (wMo k a S0) sz)) 0 0 (va_A (wMo k a S0) sz) := by
  refine ct_entry (cc := cX7_passes) (maxL := 3) (ret := none) (Rn := RX7) (Qc := fun A => (va_Qv (fun (u : St) => Q u) (cB D k A (fun u : St => wMo k a u)) A)) (by decide) rfl rfl (Nat.le_of_ble_eq_true rfl) ?_
  intro p e s m below meth c hx hb hr hlocks hml hts hown hnw hK A hA H locs hP hD hS ls hl
  have hl : lv_has ls 3 [(0, .ref (a 0)), (1, .ref (a 4))] := hl
  have ln_131 := hts (.fieldLink RX7 131 "WithTheSameOneModel" "isKeeping" "Z") (by decide +kernel)
  have ln_135 := hts (.fieldLink RX7 135 "WithTheSameOneModel" "cursor" "I") (by decide +kernel)
  have ln_40 := hts (.fieldLink RX7 40 "WithTheSameOneModel" "kept" "[I") (by decide +kernel)
  have in_Mo : ∀ w ∈ wsX70, w ∈ wsX7_passes := fun _ h => List.mem_cons_of_mem _ (List.mem_append_right _ h)
  have L_42 : ∀ (K2 : St → Int32 → Prop), (∀ (S0 : St) (x2 : Int32), ∀ (H : Heap) (locs : List Loc) (ls : Array Slot), va_P D vwCl (wMo k a S0) H → va_D A (wMo k a S0) → va_S A s.heap H locs → lv_has ls 3 [(0, .ref (a 0)), (1, .ref (a 4)), (2, .int x2)] → K2 S0 x2 → W p l e rmX7_passes_3 s m ([.ref (a 0), .ref (a 4)] : List Value).toArray below meth c H locs 0 0 (MQ below (va_Qv (fun (u : St) => Q u) (cB D k A (fun u : St => wMo k a u)) A) ([.ref (a 0), .ref (a 4)] : List Value).toArray s 0 0 A) (F0 m 2 ls [])) → ∀ (S0 : St) (x2 : Int32), ∀ (H : Heap) (locs : List Loc) (ls : Array Slot), va_P D vwCl (wMo k a S0) H → va_D A (wMo k a S0) → va_S A s.heap H locs → lv_has ls 3 [(0, .ref (a 0)), (1, .ref (a 4)), (2, .int x2)] → wp_X7_passes_3_42 K2 Q S0 x2 → W p l e rmX7_passes_3 s m ([.ref (a 0), .ref (a 4)] : List Value).toArray below meth c H locs 0 0 (MQ below (va_Qv (fun (u : St) => Q u) (cB D k A (fun u : St => wMo k a u)) A) ([.ref (a 0), .ref (a 4)] : List Value).toArray s 0 0 A) (F0 m 42 ls []) := by
    intro K2 hK2 S0 x2 H locs ls hP hD hS hl h
    unfold wp_X7_passes_3_42 at h
    refine lv_aload_n hx hb dX7_passes_42 rfl (lv_at hl 0 rfl) ?_
    refine lv_dup hx hb dX7_passes_43 rfl ?_
    refine va_get (D := D) (ci := 7) (v := .int (S0.1 18)) (C := RX7) (T := TX7) (N := 33) hx hb hts in_Mo hown hK hP 0 rfl rfl 18 (by decide) ln_135 (fun _ h9 => h9) rfl dX7_passes_44 ?_
    refine lv_iconst (v := (1 : Int32)) hx hb dX7_passes_47 (by decide) ?_
    refine lv_iadd hx hb dX7_passes_48 ?_
    refine va_put (D := D) (ci := 7) (v := .int ((S0.1 18) + (1 : Int32))) (ty := .int) (C := RX7) (T := TX7) (N := 33) hx hb hts in_Mo tyX7 tyX7_ok nmX7 hown hK hP hD hS 0 rfl rfl 18 (by decide) ln_135 (fun _ h9 => h9) rfl (by decide +kernel) rfl rfl (Nat.le_of_ble_eq_true rfl) dX7_passes_49 (fun H locs hP hD hS => ?_)
    obtain ⟨S_5, e_6⟩ : ∃ z : St, z = (sI S0 18 ((S0.1 18) + (1 : Int32))) := ⟨_, rfl⟩
    have h := h S_5 e_6
    have hP : va_P D vwCl (wMo k a S_5) H := by rw [e_6]; exact hP
    have hD : va_D A (wMo k a S_5) := by rw [e_6]; exact hD
    refine lv_iinc (v := (x2 + 1)) (lv' := [(2, .int (x2 + 1)), (0, .ref (a 0)), (1, .ref (a 4))]) hx hb dX7_passes_52 hl (k := 2) rfl rfl (by decide) rfl (fun ls hl => ?_)
    refine lv_goto (tgt := 2) hx hb dX7_passes_55 (by decide) ?_
    exact hK2 S_5 (x2 + 1) H locs ls hP hD hS (lv_sub hl [1, 2, 0] rfl) h
  have L_2 : ∀ (n : Nat), ∀ (S0 : St) (x2 : Int32), ∀ (H : Heap) (locs : List Loc) (ls : Array Slot), va_P D vwCl (wMo k a S0) H → va_D A (wMo k a S0) → va_S A s.heap H locs → lv_has ls 3 [(0, .ref (a 0)), (1, .ref (a 4)), (2, .int x2)] → wp_X7_passes_3_2 Q n S0 x2 → W p l e rmX7_passes_3 s m ([.ref (a 0), .ref (a 4)] : List Value).toArray below meth c H locs 0 0 (MQ below (va_Qv (fun (u : St) => Q u) (cB D k A (fun u : St => wMo k a u)) A) ([.ref (a 0), .ref (a 4)] : List Value).toArray s 0 0 A) (F0 m 2 ls []) := by
    intro n
    induction n with
    | zero => intro S0 x2 H locs ls hP hD hS hl h; exact absurd h (by unfold wp_X7_passes_3_2; exact id)
    | succ n ih =>
      intro S0 x2 H locs ls hP hD hS hl h
      unfold wp_X7_passes_3_2 at h
      refine lv_iload_n hx hb dX7_passes_2 rfl (lv_at hl 2 rfl) ?_
      refine lv_aload_n hx hb dX7_passes_3 rfl (lv_at hl 1 rfl) ?_
      refine va_alen hx hb hK hP 4 0 rfl rfl (v := (8 : Int32)) rfl dX7_passes_4 ?_
      refine lv_icmp_ge (tgt := 58) hx hb dX7_passes_5 (by decide) (fun c_1 => ?_) (fun c_1 => ?_)
      · have h := h.1 c_1
        exact W.vret hx hb hr (fun t ht hW => ⟨⟨S0, rfl, h, by rw [ht]; exact hP, va_K.moved hW.alike hK, hD⟩, hS.F ht⟩) hS.2.2 dX7_passes_58
      · have h := h.2 c_1
        refine lv_aload_n hx hb dX7_passes_8 rfl (lv_at hl 0 rfl) ?_
        refine va_get (D := D) (ci := 7) (v := .int (S0.1 17)) (C := RX7) (T := TX7) (N := 33) hx hb hts in_Mo hown hK hP 0 rfl rfl 17 (by decide) ln_131 (fun _ h9 => h9) rfl dX7_passes_9 ?_
        refine lv_if_eq (tgt := 30) hx hb dX7_passes_12 (by decide) (fun c_2 => ?_) (fun c_2 => ?_)
        · have h := h.1 c_2
          refine lv_aload_n hx hb dX7_passes_30 rfl (lv_at hl 1 rfl) ?_
          refine lv_iload_n hx hb dX7_passes_31 rfl (lv_at hl 2 rfl) ?_
          refine lv_aload_n hx hb dX7_passes_32 rfl (lv_at hl 0 rfl) ?_
          refine va_get (D := D) (ci := 7) (v := .ref (a 11)) (C := RX7) (T := TX7) (N := 33) hx hb hts in_Mo hown hK hP 0 rfl rfl 15 (by decide) ln_40 (fun _ h9 => h9) rfl dX7_passes_33 ?_
          refine lv_aload_n hx hb dX7_passes_36 rfl (lv_at hl 0 rfl) ?_
          refine va_get (D := D) (ci := 7) (v := .int (S0.1 18)) (C := RX7) (T := TX7) (N := 33) hx hb hts in_Mo hown hK hP 0 rfl rfl 18 (by decide) ln_135 (fun _ h9 => h9) rfl dX7_passes_37 ?_
          refine va_iald hx hb hK hP 11 0 rfl rfl h.1 dX7_passes_40 ?_
          have h := h.2
          refine va_iast hx hb hK hP hD hS 4 0 rfl rfl h.1 dX7_passes_41 (fun H locs hP hD hS => ?_)
          have h := h.2
          obtain ⟨S_3, e_4⟩ : ∃ z : St, z = (sA S0 3 x2.toNatClampNeg (S0.2 15 (S0.1 18).toNatClampNeg)) := ⟨_, rfl⟩
          have h := h S_3 e_4
          have hP : va_P D vwCl (wMo k a S_3) H := by rw [e_4]; exact hP
          have hD : va_D A (wMo k a S_3) := by rw [e_4]; exact hD
          exact L_42 (fun s0 v0 => wp_X7_passes_3_2 Q n s0 v0) ih S_3 x2 H locs ls hP hD hS (lv_sub hl [0, 1, 2] rfl) h
        · have h := h.2 c_2
          refine lv_aload_n hx hb dX7_passes_15 rfl (lv_at hl 0 rfl) ?_
          refine va_get (D := D) (ci := 7) (v := .ref (a 11)) (C := RX7) (T := TX7) (N := 33) hx hb hts in_Mo hown hK hP 0 rfl rfl 15 (by decide) ln_40 (fun _ h9 => h9) rfl dX7_passes_16 ?_
          refine lv_aload_n hx hb dX7_passes_19 rfl (lv_at hl 0 rfl) ?_
          refine va_get (D := D) (ci := 7) (v := .int (S0.1 18)) (C := RX7) (T := TX7) (N := 33) hx hb hts in_Mo hown hK hP 0 rfl rfl 18 (by decide) ln_135 (fun _ h9 => h9) rfl dX7_passes_20 ?_
          refine lv_aload_n hx hb dX7_passes_23 rfl (lv_at hl 1 rfl) ?_
          refine lv_iload_n hx hb dX7_passes_24 rfl (lv_at hl 2 rfl) ?_
          refine va_iald hx hb hK hP 4 0 rfl rfl h.1 dX7_passes_25 ?_
          have h := h.2
          refine va_iast hx hb hK hP hD hS 11 0 rfl rfl h.1 dX7_passes_26 (fun H locs hP hD hS => ?_)
          have h := h.2
          obtain ⟨S_7, e_8⟩ : ∃ z : St, z = (sA S0 15 (S0.1 18).toNatClampNeg (S0.2 3 x2.toNatClampNeg)) := ⟨_, rfl⟩
          have h := h S_7 e_8
          have hP : va_P D vwCl (wMo k a S_7) H := by rw [e_8]; exact hP
          have hD : va_D A (wMo k a S_7) := by rw [e_8]; exact hD
          refine lv_goto (tgt := 42) hx hb dX7_passes_27 (by decide) ?_
          exact L_42 (fun s0 v0 => wp_X7_passes_3_2 Q n s0 v0) ih S_7 x2 H locs ls hP hD hS (lv_sub hl [0, 1, 2] rfl) h
  unfold wp_X7_passes_3 at h
  refine lv_iconst (v := (0 : Int32)) hx hb dX7_passes_0 (by decide) ?_
  refine lv_istore_n (lv' := [(2, .int (0 : Int32)), (0, .ref (a 0)), (1, .ref (a 4))]) hx hb dX7_passes_1 rfl hl (by decide) rfl (fun ls hl => ?_)
  obtain ⟨n_9, h⟩ := h
  exact L_2 n_9 S0 (0 : Int32) H locs ls hP hD hS (lv_sub hl [1, 2, 0] rfl) h
/-! X7_passes_4 -/
def wp_X7_passes_4_42 (K2 : St → Int32 → Prop) (Q : St → Prop) (S0 : St) (x2 : Int32) : Prop := ∀ S_5, S_5 = (sI S0 18 ((S0.1 18) + (1 : Int32))) → (K2 S_5 (x2 + 1))
def wp_X7_passes_4_2 (Q : St → Prop) : Nat → St → Int32 → Prop
  | 0, _, _ => False
  | n + 1, S0, x2 => (((8 : Int32) ≤ x2) → (Q S0)) ∧ ((¬ (8 : Int32) ≤ x2) → ((((S0.1 17) = 0) → (vp_in (S0.1 18) 400 ∧ (vp_in x2 8 ∧ (∀ S_3, S_3 = (sA S0 4 x2.toNatClampNeg (S0.2 15 (S0.1 18).toNatClampNeg)) → (wp_X7_passes_4_42 (fun s0 v0 => wp_X7_passes_4_2 Q n s0 v0) Q S_3 x2))))) ∧ ((¬ (S0.1 17) = 0) → (vp_in x2 8 ∧ (vp_in (S0.1 18) 400 ∧ (∀ S_7, S_7 = (sA S0 15 (S0.1 18).toNatClampNeg (S0.2 4 x2.toNatClampNeg)) → (wp_X7_passes_4_42 (fun s0 v0 => wp_X7_passes_4_2 Q n s0 v0) Q S_7 x2)))))))
def wp_X7_passes_4 (S0 : St) (Q : St → Prop) : Prop := ∃ i, wp_X7_passes_4_2 Q i S0 (0 : Int32)
abbrev rmX7_passes_4 : Room := { frames := 0, cells := 0, slots := 0, locals := 0 }
set_option maxRecDepth 100000 in
set_option maxHeartbeats 4000000 in
theorem c_X7_passes_4 (l : Launch) (D : va_G) (k : Nat → ClassId) (a : Nat → Nat) (S0 : St) (sz : Nat) (Q : St → Prop) (h : wp_X7_passes_4 S0 Q) : Met l yX7_passes wsX7_passes rmX7_passes_4 (cPc D k (wMo k a S0) [.ref (a 0), .ref (a 5)] sz) (va_Qv (fun (u : St) => Q u) (cB D k (va_A (wMo k a S0) sz) (fun u : St => wMo k a u)) (va_A (wMo k a S0) sz)) 0 0 (va_A (wMo k a S0) sz) := by
  refine ct_entry (cc := cX7_passes) (maxL := 3) (ret := none) (Rn := RX7) (Qc := fun A => (va_Qv (fun (u : St) => Q u) (cB D k A (fun u : St => wMo k a u)) A)) (by decide) rfl rfl (Nat.le_of_ble_eq_true rfl) ?_
  intro p e s m below meth c hx hb hr hlocks hml hts hown hnw hK A hA H locs hP hD hS ls hl
  have hl : lv_has ls 3 [(0, .ref (a 0)), (1, .ref (a 5))] := hl
  have ln_131 := hts (.fieldLink RX7 131 "WithTheSameOneModel" "isKeeping" "Z") (by decide +kernel)
  have ln_135 := hts (.fieldLink RX7 135 "WithTheSameOneModel" "cursor" "I") (by decide +kernel)
  have ln_40 := hts (.fieldLink RX7 40 "WithTheSameOneModel" "kept" "[I") (by decide +kernel)
  have in_Mo : ∀ w ∈ wsX70, w ∈ wsX7_passes := fun _ h => List.mem_cons_of_mem _ (List.mem_append_right _ h)
  have L_42 : ∀ (K2 : St → Int32 → Prop), (∀ (S0 : St) (x2 : Int32), ∀ (H : Heap) (locs : List Loc) (ls : Array Slot), va_P D vwCl (wMo k a S0) H → va_D A (wMo k a S0) → va_S A s.heap H locs → lv_has ls 3 [(0, .ref (a 0)), (1, .ref (a 5)), (2, .int x2)] → K2 S0 x2 → W p l e rmX7_passes_4 s m ([.ref (a 0), .ref (a 5)] : List Value).toArray below meth c H locs 0 0 (MQ below (va_Qv (fun (u : St) => Q u) (cB D k A (fun u : St => wMo k a u)) A) ([.ref (a 0), .ref (a 5)] : List Value).toArray s 0 0 A) (F0 m 2 ls [])) → ∀ (S0 : St) (x2 : Int32), ∀ (H : Heap) (locs : List Loc) (ls : Array Slot), va_P D vwCl (wMo k a S0) H → va_D A (wMo k a S0) → va_S A s.heap H locs → lv_has ls 3 [(0, .ref (a 0)), (1, .ref (a 5)), (2, .int x2)] → wp_X7_passes_4_42 K2 Q S0 x2 → W p l e rmX7_passes_4 s m ([.ref (a 0), .ref (a 5)] : List Value).toArray below meth c H locs 0 0 (MQ below (va_Qv (fun (u : St) => Q u) (cB D k A (fun u : St => wMo k a u)) A) ([.ref (a 0), .ref (a 5)] : List Value).toArray s 0 0 A) (F0 m 42 ls []) := by
    intro K2 hK2 S0 x2 H locs ls hP hD hS hl h
    unfold wp_X7_passes_4_42 at h
    refine lv_aload_n hx hb dX7_passes_42 rfl (lv_at hl 0 rfl) ?_
    refine lv_dup hx hb dX7_passes_43 rfl ?_
    refine va_get (D := D) (ci := 7) (v := .int (S0.1 18)) (C := RX7) (T := TX7) (N := 33) hx hb hts in_Mo hown hK hP 0 rfl rfl 18 (by decide) ln_135 (fun _ h9 => h9) rfl dX7_passes_44 ?_
    refine lv_iconst (v := (1 : Int32)) hx hb dX7_passes_47 (by decide) ?_
    refine lv_iadd hx hb dX7_passes_48 ?_
    refine va_put (D := D) (ci := 7) (v := .int ((S0.1 18) + (1 : Int32))) (ty := .int) (C := RX7) (T := TX7) (N := 33) hx hb hts in_Mo tyX7 tyX7_ok nmX7 hown hK hP hD hS 0 rfl rfl 18 (by decide) ln_135 (fun _ h9 => h9) rfl (by decide +kernel) rfl rfl (Nat.le_of_ble_eq_true rfl) dX7_passes_49 (fun H locs hP hD hS => ?_)
    obtain ⟨S_5, e_6⟩ : ∃ z : St, z = (sI S0 18 ((S0.1 18) + (1 : Int32))) := ⟨_, rfl⟩
    have h := h S_5 e_6
    have hP : va_P D vwCl (wMo k a S_5) H := by rw [e_6]; exact hP
    have hD : va_D A (wMo k a S_5) := by rw [e_6]; exact hD
    refine lv_iinc (v := (x2 + 1)) (lv' := [(2, .int (x2 + 1)), (0, .ref (a 0)), (1, .ref (a 5))]) hx hb dX7_passes_52 hl (k := 2) rfl rfl (by decide) rfl (fun ls hl => ?_)
    refine lv_goto (tgt := 2) hx hb dX7_passes_55 (by decide) ?_
    exact hK2 S_5 (x2 + 1) H locs ls hP hD hS (lv_sub hl [1, 2, 0] rfl) h
  have L_2 : ∀ (n : Nat), ∀ (S0 : St) (x2 : Int32), ∀ (H : Heap) (locs : List Loc) (ls : Array Slot), va_P D vwCl (wMo k a S0) H → va_D A (wMo k a S0) → va_S A s.heap H locs → lv_has ls 3 [(0, .ref (a 0)), (1, .ref (a 5)), (2, .int x2)] → wp_X7_passes_4_2 Q n S0 x2 → W p l e rmX7_passes_4 s m ([.ref (a 0), .ref (a 5)] : List Value).toArray below meth c H locs 0 0 (MQ below (va_Qv (fun (u : St) => Q u) (cB D k A (fun u : St => wMo k a u)) A) ([.ref (a 0), .ref (a 5)] : List Value).toArray s 0 0 A) (F0 m 2 ls []) := by
    intro n
    induction n with
    | zero => intro S0 x2 H locs ls hP hD hS hl h; exact absurd h (by unfold wp_X7_passes_4_2; exact id)
    | succ n ih =>
      intro S0 x2 H locs ls hP hD hS hl h
      unfold wp_X7_passes_4_2 at h
      refine lv_iload_n hx hb dX7_passes_2 rfl (lv_at hl 2 rfl) ?_
      refine lv_aload_n hx hb dX7_passes_3 rfl (lv_at hl 1 rfl) ?_
      refine va_alen hx hb hK hP 5 0 rfl rfl (v := (8 : Int32)) rfl dX7_passes_4 ?_
      refine lv_icmp_ge (tgt := 58) hx hb dX7_passes_5 (by decide) (fun c_1 => ?_) (fun c_1 => ?_)
      · have h := h.1 c_1
        exact W.vret hx hb hr (fun t ht hW => ⟨⟨S0, rfl, h, by rw [ht]; exact hP, va_K.moved hW.alike hK, hD⟩, hS.F ht⟩) hS.2.2 dX7_passes_58
      · have h := h.2 c_1
        refine lv_aload_n hx hb dX7_passes_8 rfl (lv_at hl 0 rfl) ?_
        refine va_get (D := D) (ci := 7) (v := .int (S0.1 17)) (C := RX7) (T := TX7) (N := 33) hx hb hts in_Mo hown hK hP 0 rfl rfl 17 (by decide) ln_131 (fun _ h9 => h9) rfl dX7_passes_9 ?_
        refine lv_if_eq (tgt := 30) hx hb dX7_passes_12 (by decide) (fun c_2 => ?_) (fun c_2 => ?_)
        · have h := h.1 c_2
          refine lv_aload_n hx hb dX7_passes_30 rfl (lv_at hl 1 rfl) ?_
          refine lv_iload_n hx hb dX7_passes_31 rfl (lv_at hl 2 rfl) ?_
          refine lv_aload_n hx hb dX7_passes_32 rfl (lv_at hl 0 rfl) ?_
          refine va_get (D := D) (ci := 7) (v := .ref (a 11)) (C := RX7) (T := TX7) (N := 33) hx hb hts in_Mo hown hK hP 0 rfl rfl 15 (by decide) ln_40 (fun _ h9 => h9) rfl dX7_passes_33 ?_
          refine lv_aload_n hx hb dX7_passes_36 rfl (lv_at hl 0 rfl) ?_
          refine va_get (D := D) (ci := 7) (v := .int (S0.1 18)) (C := RX7) (T := TX7) (N := 33) hx hb hts in_Mo hown hK hP 0 rfl rfl 18 (by decide) ln_135 (fun _ h9 => h9) rfl dX7_passes_37 ?_
          refine va_iald hx hb hK hP 11 0 rfl rfl h.1 dX7_passes_40 ?_
          have h := h.2
          refine va_iast hx hb hK hP hD hS 5 0 rfl rfl h.1 dX7_passes_41 (fun H locs hP hD hS => ?_)
          have h := h.2
          obtain ⟨S_3, e_4⟩ : ∃ z : St, z = (sA S0 4 x2.toNatClampNeg (S0.2 15 (S0.1 18).toNatClampNeg)) := ⟨_, rfl⟩
          have h := h S_3 e_4
          have hP : va_P D vwCl (wMo k a S_3) H := by rw [e_4]; exact hP
          have hD : va_D A (wMo k a S_3) := by rw [e_4]; exact hD
          exact L_42 (fun s0 v0 => wp_X7_passes_4_2 Q n s0 v0) ih S_3 x2 H locs ls hP hD hS (lv_sub hl [0, 1, 2] rfl) h
        · have h := h.2 c_2
          refine lv_aload_n hx hb dX7_passes_15 rfl (lv_at hl 0 rfl) ?_
          refine va_get (D := D) (ci := 7) (v := .ref (a 11)) (C := RX7) (T := TX7) (N := 33) hx hb hts in_Mo hown hK hP 0 rfl rfl 15 (by decide) ln_40 (fun _ h9 => h9) rfl dX7_passes_16 ?_
          refine lv_aload_n hx hb dX7_passes_19 rfl (lv_at hl 0 rfl) ?_
          refine va_get (D := D) (ci := 7) (v := .int (S0.1 18)) (C := RX7) (T := TX7) (N := 33) hx hb hts in_Mo hown hK hP 0 rfl rfl 18 (by decide) ln_135 (fun _ h9 => h9) rfl dX7_passes_20 ?_
          refine lv_aload_n hx hb dX7_passes_23 rfl (lv_at hl 1 rfl) ?_
          refine lv_iload_n hx hb dX7_passes_24 rfl (lv_at hl 2 rfl) ?_
          refine va_iald hx hb hK hP 5 0 rfl rfl h.1 dX7_passes_25 ?_
          have h := h.2
          refine va_iast hx hb hK hP hD hS 11 0 rfl rfl h.1 dX7_passes_26 (fun H locs hP hD hS => ?_)
          have h := h.2
          obtain ⟨S_7, e_8⟩ : ∃ z : St, z = (sA S0 15 (S0.1 18).toNatClampNeg (S0.2 4 x2.toNatClampNeg)) := ⟨_, rfl⟩
          have h := h S_7 e_8
          have hP : va_P D vwCl (wMo k a S_7) H := by rw [e_8]; exact hP
          have hD : va_D A (wMo k a S_7) := by rw [e_8]; exact hD
          refine lv_goto (tgt := 42) hx hb dX7_passes_27 (by decide) ?_
          exact L_42 (fun s0 v0 => wp_X7_passes_4_2 Q n s0 v0) ih S_7 x2 H locs ls hP hD hS (lv_sub hl [0, 1, 2] rfl) h
  unfold wp_X7_passes_4 at h
  refine lv_iconst (v := (0 : Int32)) hx hb dX7_passes_0 (by decide) ?_
  refine lv_istore_n (lv' := [(2, .int (0 : Int32)), (0, .ref (a 0)), (1, .ref (a 5))]) hx hb dX7_passes_1 rfl hl (by decide) rfl (fun ls hl => ?_)
  obtain ⟨n_9, h⟩ := h
  exact L_2 n_9 S0 (0 : Int32) H locs ls hP hD hS (lv_sub hl [1, 2, 0] rfl) h
/-! X7_passOne -/
def wp_X7_passOne_38 (x1 : Int32) (Q : Int32 → St → Prop) (S0 : St) (x2 : Int32) : Prop := ∀ S_3, S_3 = (sI S0 18 ((S0.1 18) + (1 : Int32))) → (Q x2 S_3)
def wp_X7_passOne_20 (x1 : Int32) (Q : Int32 → St → Prop) (S0 : St) (y0 : Int32) : Prop := (((S0.1 17) = 0) → (wp_X7_passOne_38 x1 Q S0 y0)) ∧ ((¬ (S0.1 17) = 0) → (vp_in (S0.1 18) 400 ∧ (∀ S_5, S_5 = (sA S0 15 (S0.1 18).toNatClampNeg x1) → (wp_X7_passOne_38 x1 Q S_5 y0))))
def wp_X7_passOne (S0 : St) (x1 : Int32) (Q : Int32 → St → Prop) : Prop := (((S0.1 17) = 0) → (vp_in (S0.1 18) 400 ∧ (wp_X7_passOne_20 x1 Q S0 (S0.2 15 (S0.1 18).toNatClampNeg)))) ∧ ((¬ (S0.1 17) = 0) → (wp_X7_passOne_20 x1 Q S0 x1))
abbrev rmX7_passOne : Room := { frames := 0, cells := 0, slots := 0, locals := 0 }
set_option maxRecDepth 100000 in
set_option maxHeartbeats 4000000 in
theorem c_X7_passOne (l : Launch) (D : va_G) (k : Nat → ClassId) (a : Nat → Nat) (S0 : St) (sz : Nat) (x1 : Int32) (Q : Int32 → St → Prop) (h : wp_X7_passOne S0 x1 Q) : Met l yX7_passOne wsX7_passOne rmX7_passOne (cPc D k (wMo k a S0) [.ref (a 0), .int x1] sz) (va_Qi (fun (r : Int32) (u : St) => Q r u) (cB D k (va_A (wMo k a S0) sz) (fun u : St => wMo k a u)) (va_A (wMo k a S0) sz)) 0 0 (va_A (wMo k a S0) sz) := by
  refine ct_entry (cc := cX7_passOne) (maxL := 3) (ret := (some .int)) (Rn := RX7) (Qc := fun A => (va_Qi (fun (r : Int32) (u : St) => Q r u) (cB D k A (fun u : St => wMo k a u)) A)) (by decide) rfl rfl (Nat.le_of_ble_eq_true rfl) ?_
  intro p e s m below meth c hx hb hr hlocks hml hts hown hnw hK A hA H locs hP hD hS ls hl
  have hl : lv_has ls 3 [(0, .ref (a 0)), (1, .int x1)] := hl
  have ln_131 := hts (.fieldLink RX7 131 "WithTheSameOneModel" "isKeeping" "Z") (by decide +kernel)
  have ln_135 := hts (.fieldLink RX7 135 "WithTheSameOneModel" "cursor" "I") (by decide +kernel)
  have ln_40 := hts (.fieldLink RX7 40 "WithTheSameOneModel" "kept" "[I") (by decide +kernel)
  have in_Mo : ∀ w ∈ wsX70, w ∈ wsX7_passOne := fun _ h => List.mem_cons_of_mem _ (List.mem_append_right _ h)
  have L_38 : ∀ (S0 : St) (x2 : Int32), ∀ (H : Heap) (locs : List Loc) (ls : Array Slot), va_P D vwCl (wMo k a S0) H → va_D A (wMo k a S0) → va_S A s.heap H locs → lv_has ls 3 [(0, .ref (a 0)), (2, .int x2)] → wp_X7_passOne_38 x1 Q S0 x2 → W p l e rmX7_passOne s m ([.ref (a 0), .int x1] : List Value).toArray below meth c H locs 0 0 (MQ below (va_Qi (fun (r : Int32) (u : St) => Q r u) (cB D k A (fun u : St => wMo k a u)) A) ([.ref (a 0), .int x1] : List Value).toArray s 0 0 A) (F0 m 38 ls []) := by
    intro S0 x2 H locs ls hP hD hS hl h
    unfold wp_X7_passOne_38 at h
    refine lv_aload_n hx hb dX7_passOne_38 rfl (lv_at hl 0 rfl) ?_
    refine lv_dup hx hb dX7_passOne_39 rfl ?_
    refine va_get (D := D) (ci := 7) (v := .int (S0.1 18)) (C := RX7) (T := TX7) (N := 33) hx hb hts in_Mo hown hK hP 0 rfl rfl 18 (by decide) ln_135 (fun _ h9 => h9) rfl dX7_passOne_40 ?_
    refine lv_iconst (v := (1 : Int32)) hx hb dX7_passOne_43 (by decide) ?_
    refine lv_iadd hx hb dX7_passOne_44 ?_
    refine va_put (D := D) (ci := 7) (v := .int ((S0.1 18) + (1 : Int32))) (ty := .int) (C := RX7) (T := TX7) (N := 33) hx hb hts in_Mo tyX7 tyX7_ok nmX7 hown hK hP hD hS 0 rfl rfl 18 (by decide) ln_135 (fun _ h9 => h9) rfl (by decide +kernel) rfl rfl (Nat.le_of_ble_eq_true rfl) dX7_passOne_45 (fun H locs hP hD hS => ?_)
    obtain ⟨S_3, e_4⟩ : ∃ z : St, z = (sI S0 18 ((S0.1 18) + (1 : Int32))) := ⟨_, rfl⟩
    have h := h S_3 e_4
    have hP : va_P D vwCl (wMo k a S_3) H := by rw [e_4]; exact hP
    have hD : va_D A (wMo k a S_3) := by rw [e_4]; exact hD
    refine lv_iload_n hx hb dX7_passOne_48 rfl (lv_at hl 1 rfl) ?_
    exact W.iret (v := x2) hx hb hr (fun t ht hW => ⟨⟨x2, S_3, rfl, h, by rw [ht]; exact hP, va_K.moved hW.alike hK, hD⟩, hS.F ht⟩) hS.2.2 dX7_passOne_49
  have L_20 : ∀ (S0 : St) (y0 : Int32), ∀ (H : Heap) (locs : List Loc) (ls : Array Slot), va_P D vwCl (wMo k a S0) H → va_D A (wMo k a S0) → va_S A s.heap H locs → lv_has ls 3 [(0, .ref (a 0)), (1, .int x1)] → wp_X7_passOne_20 x1 Q S0 y0 → W p l e rmX7_passOne s m ([.ref (a 0), .int x1] : List Value).toArray below meth c H locs 0 0 (MQ below (va_Qi (fun (r : Int32) (u : St) => Q r u) (cB D k A (fun u : St => wMo k a u)) A) ([.ref (a 0), .int x1] : List Value).toArray s 0 0 A) (F0 m 20 ls [.int y0]) := by
    intro S0 y0 H locs ls hP hD hS hl h
    unfold wp_X7_passOne_20 at h
    refine lv_istore_n (lv' := [(2, .int y0), (0, .ref (a 0)), (1, .int x1)]) hx hb dX7_passOne_20 rfl hl (by decide) rfl (fun ls hl => ?_)
    refine lv_aload_n hx hb dX7_passOne_21 rfl (lv_at hl 1 rfl) ?_
    refine va_get (D := D) (ci := 7) (v := .int (S0.1 17)) (C := RX7) (T := TX7) (N := 33) hx hb hts in_Mo hown hK hP 0 rfl rfl 17 (by decide) ln_131 (fun _ h9 => h9) rfl dX7_passOne_22 ?_
    refine lv_if_eq (tgt := 38) hx hb dX7_passOne_25 (by decide) (fun c_2 => ?_) (fun c_2 => ?_)
    · have h := h.1 c_2
      exact L_38 S0 y0 H locs ls hP hD hS (lv_sub hl [1, 0] rfl) h
    · have h := h.2 c_2
      refine lv_aload_n hx hb dX7_passOne_28 rfl (lv_at hl 1 rfl) ?_
      refine va_get (D := D) (ci := 7) (v := .ref (a 11)) (C := RX7) (T := TX7) (N := 33) hx hb hts in_Mo hown hK hP 0 rfl rfl 15 (by decide) ln_40 (fun _ h9 => h9) rfl dX7_passOne_29 ?_
      refine lv_aload_n hx hb dX7_passOne_32 rfl (lv_at hl 1 rfl) ?_
      refine va_get (D := D) (ci := 7) (v := .int (S0.1 18)) (C := RX7) (T := TX7) (N := 33) hx hb hts in_Mo hown hK hP 0 rfl rfl 18 (by decide) ln_135 (fun _ h9 => h9) rfl dX7_passOne_33 ?_
      refine lv_iload_n hx hb dX7_passOne_36 rfl (lv_at hl 2 rfl) ?_
      refine va_iast hx hb hK hP hD hS 11 0 rfl rfl h.1 dX7_passOne_37 (fun H locs hP hD hS => ?_)
      have h := h.2
      obtain ⟨S_5, e_6⟩ : ∃ z : St, z = (sA S0 15 (S0.1 18).toNatClampNeg x1) := ⟨_, rfl⟩
      have h := h S_5 e_6
      have hP : va_P D vwCl (wMo k a S_5) H := by rw [e_6]; exact hP
      have hD : va_D A (wMo k a S_5) := by rw [e_6]; exact hD
      exact L_38 S_5 y0 H locs ls hP hD hS (lv_sub hl [1, 0] rfl) h
  unfold wp_X7_passOne at h
  refine lv_aload_n hx hb dX7_passOne_0 rfl (lv_at hl 0 rfl) ?_
  refine va_get (D := D) (ci := 7) (v := .int (S0.1 17)) (C := RX7) (T := TX7) (N := 33) hx hb hts in_Mo hown hK hP 0 rfl rfl 17 (by decide) ln_131 (fun _ h9 => h9) rfl dX7_passOne_1 ?_
  refine lv_if_eq (tgt := 11) hx hb dX7_passOne_4 (by decide) (fun c_1 => ?_) (fun c_1 => ?_)
  · have h := h.1 c_1
    refine lv_aload_n hx hb dX7_passOne_11 rfl (lv_at hl 0 rfl) ?_
    refine va_get (D := D) (ci := 7) (v := .ref (a 11)) (C := RX7) (T := TX7) (N := 33) hx hb hts in_Mo hown hK hP 0 rfl rfl 15 (by decide) ln_40 (fun _ h9 => h9) rfl dX7_passOne_12 ?_
    refine lv_aload_n hx hb dX7_passOne_15 rfl (lv_at hl 0 rfl) ?_
    refine va_get (D := D) (ci := 7) (v := .int (S0.1 18)) (C := RX7) (T := TX7) (N := 33) hx hb hts in_Mo hown hK hP 0 rfl rfl 18 (by decide) ln_135 (fun _ h9 => h9) rfl dX7_passOne_16 ?_
    refine va_iald hx hb hK hP 11 0 rfl rfl h.1 dX7_passOne_19 ?_
    have h := h.2
    exact L_20 S0 (S0.2 15 (S0.1 18).toNatClampNeg) H locs ls hP hD hS (lv_sub hl [0, 1] rfl) h
  · have h := h.2 c_1
    refine lv_iload_n hx hb dX7_passOne_7 rfl (lv_at hl 1 rfl) ?_
    refine lv_goto (tgt := 20) hx hb dX7_passOne_8 (by decide) ?_
    exact L_20 S0 x1 H locs ls hP hD hS (lv_sub hl [0, 1] rfl) h
/-! X7_passesAll -/
def wp_X7_passesAll (S0 : St) (x1 : Int32) (x2 : Int32) (Q : St → Prop) : Prop := ∀ S_1, S_1 = (sI S0 18 ((40 : Int32) * x1)) → (bz x2 ∧ (∀ S_3, S_3 = (sI S_1 17 x2) → (wp_X7_passes_1 S_3 (fun u_6 => wp_X7_passes_2 u_6 (fun u_8 => wp_X7_passes_3 u_8 (fun u_10 => wp_X7_passes_4 u_10 (fun u_12 => wp_X7_passOne u_12 (u_12.1 5) (fun r_13 u_14 => ∀ S_15, S_15 = (sI u_14 5 r_13) → (wp_X7_passOne S_15 (S_15.1 6) (fun r_17 u_18 => ∀ S_19, S_19 = (sI u_18 6 r_17) → (Q S_19)))))))))))
abbrev rmX7_passesAll : Room := { frames := 1, cells := 0, slots := 0, locals := 22 }
set_option maxRecDepth 100000 in
set_option maxHeartbeats 4000000 in
theorem c_X7_passesAll (l : Launch) (D : va_G) (k : Nat → ClassId) (a : Nat → Nat) (S0 : St) (sz : Nat) (x1 : Int32) (x2 : Int32) (Q : St → Prop) (h : wp_X7_passesAll S0 x1 x2 Q) : Met l yX7_passesAll wsX7_passesAll rmX7_passesAll (cPc D k (wMo k a S0) [.ref (a 0), .int x1, .int x2] sz) (va_Qv (fun (u : St) => Q u) (cB D k (va_A (wMo k a S0) sz) (fun u : St => wMo k a u)) (va_A (wMo k a S0) sz)) 0 0 (va_A (wMo k a S0) sz) := by
  refine ct_entry (cc := cX7_passesAll) (maxL := 3) (ret := none) (Rn := RX7) (Qc := fun A => (va_Qv (fun (u : St) => Q u) (cB D k A (fun u : St => wMo k a u)) A)) (by decide) rfl rfl (Nat.le_of_ble_eq_true rfl) ?_
  intro p e s m below meth c hx hb hr hlocks hml hts hown hnw hK A hA H locs hP hD hS ls hl
  have hl : lv_has ls 3 [(0, .ref (a 0)), (1, .int x1), (2, .int x2)] := hl
  have ln_109 := hts (.fieldLink RX7 109 "WithTheSameOneModel" "law" "I") (by decide +kernel)
  have ln_13 := hts (.fieldLink RX7 13 "WithTheSameOneModel" "kind" "[I") (by decide +kernel)
  have ln_131 := hts (.fieldLink RX7 131 "WithTheSameOneModel" "isKeeping" "Z") (by decide +kernel)
  have ln_135 := hts (.fieldLink RX7 135 "WithTheSameOneModel" "cursor" "I") (by decide +kernel)
  have ln_16 := hts (.fieldLink RX7 16 "WithTheSameOneModel" "figure" "[I") (by decide +kernel)
  have ln_19 := hts (.fieldLink RX7 19 "WithTheSameOneModel" "brought" "[I") (by decide +kernel)
  have ln_22 := hts (.fieldLink RX7 22 "WithTheSameOneModel" "with" "[I") (by decide +kernel)
  have ln_70 := hts (.fieldLink RX7 70 "WithTheSameOneModel" "dancers" "I") (by decide +kernel)
  have in_Mo : ∀ w ∈ wsX70, w ∈ wsX7_passesAll := fun _ h => List.mem_cons_of_mem _ (List.mem_append_right _ h)
  unfold wp_X7_passesAll at h
  refine lv_aload_n hx hb dX7_passesAll_0 rfl (lv_at hl 0 rfl) ?_
  refine lv_bipush (v := (40 : Int32)) hx hb dX7_passesAll_1 (by decide) ?_
  refine lv_iload_n hx hb dX7_passesAll_3 rfl (lv_at hl 1 rfl) ?_
  refine lv_imul hx hb dX7_passesAll_4 ?_
  refine va_put (D := D) (ci := 7) (v := .int ((40 : Int32) * x1)) (ty := .int) (C := RX7) (T := TX7) (N := 33) hx hb hts in_Mo tyX7 tyX7_ok nmX7 hown hK hP hD hS 0 rfl rfl 18 (by decide) ln_135 (fun _ h9 => h9) rfl (by decide +kernel) rfl rfl (Nat.le_of_ble_eq_true rfl) dX7_passesAll_5 (fun H locs hP hD hS => ?_)
  obtain ⟨S_1, e_2⟩ : ∃ z : St, z = (sI S0 18 ((40 : Int32) * x1)) := ⟨_, rfl⟩
  have h := h S_1 e_2
  have hP : va_P D vwCl (wMo k a S_1) H := by rw [e_2]; exact hP
  have hD : va_D A (wMo k a S_1) := by rw [e_2]; exact hD
  refine lv_aload_n hx hb dX7_passesAll_8 rfl (lv_at hl 0 rfl) ?_
  refine lv_iload_n hx hb dX7_passesAll_9 rfl (lv_at hl 2 rfl) ?_
  refine va_put (D := D) (ci := 7) (v := .int x2) (ty := .boolean) (C := RX7) (T := TX7) (N := 33) hx hb hts in_Mo tyX7 tyX7_ok nmX7 hown hK hP hD hS 0 rfl rfl 17 (by decide) ln_131 (fun _ h9 => h9) rfl (by decide +kernel) (bz_narrow h.1) (bz_fits h.1) (Nat.le_of_ble_eq_true rfl) dX7_passesAll_10 (fun H locs hP hD hS => ?_)
  have h := h.2
  obtain ⟨S_3, e_4⟩ : ∃ z : St, z = (sI S_1 17 x2) := ⟨_, rfl⟩
  have h := h S_3 e_4
  have hP : va_P D vwCl (wMo k a S_3) H := by rw [e_4]; exact hP
  have hD : va_D A (wMo k a S_3) := by rw [e_4]; exact hD
  refine lv_aload_n hx hb dX7_passesAll_13 rfl (lv_at hl 0 rfl) ?_
  refine lv_aload_n hx hb dX7_passesAll_14 rfl (lv_at hl 0 rfl) ?_
  refine va_get (D := D) (ci := 7) (v := .ref (a 2)) (C := RX7) (T := TX7) (N := 33) hx hb hts in_Mo hown hK hP 0 rfl rfl 1 (by decide) ln_13 (fun _ h9 => h9) rfl dX7_passesAll_15 ?_
  have hFc := fr_self hD hS hA
  refine gv_v (va_runV (As := [.ref (a 2)]) (rest := []) ⟨hx, hb, hml, hown, hts⟩ (c_X7_passes_1 l D k a S_3 H.size _ h) (cwV 1 hts gX7_passesAll_X7_passes rfl rfl rfl (by decide +kernel) ⟨Nat.le_of_ble_eq_true rfl, Nat.le_of_ble_eq_true rfl⟩) (gv_preV hK hnw hP hD (ci := 7) rfl 0 rfl) rfl rfl hl.1 rfl (lv_room (Nat.le_of_ble_eq_true rfl)) dX7_passesAll_18 ⟨Nat.zero_le _, Nat.zero_le _⟩) hS hFc (fun u_6 H locs h hP1 hD1 hk1 hS => ?_)
  have hP := hP1
  have hD := hD1.weaken (fun _ _ _ z => hFc _ z)
  refine lv_aload_n hx hb dX7_passesAll_21 rfl (lv_at hl 0 rfl) ?_
  refine lv_aload_n hx hb dX7_passesAll_22 rfl (lv_at hl 0 rfl) ?_
  refine va_get (D := D) (ci := 7) (v := .ref (a 3)) (C := RX7) (T := TX7) (N := 33) hx hb hts in_Mo hown hK hP 0 rfl rfl 2 (by decide) ln_16 (fun _ h9 => h9) rfl dX7_passesAll_23 ?_
  have hFc := fr_self hD hS hA
  refine gv_v (va_runV (As := [.ref (a 3)]) (rest := []) ⟨hx, hb, hml, hown, hts⟩ (c_X7_passes_2 l D k a u_6 H.size _ h) (cwV 1 hts gX7_passesAll_X7_passes rfl rfl rfl (by decide +kernel) ⟨Nat.le_of_ble_eq_true rfl, Nat.le_of_ble_eq_true rfl⟩) (gv_preV hK hnw hP hD (ci := 7) rfl 0 rfl) rfl rfl hl.1 rfl (lv_room (Nat.le_of_ble_eq_true rfl)) dX7_passesAll_26 ⟨Nat.zero_le _, Nat.zero_le _⟩) hS hFc (fun u_8 H locs h hP1 hD1 hk1 hS => ?_)
  have hP := hP1
  have hD := hD1.weaken (fun _ _ _ z => hFc _ z)
  refine lv_aload_n hx hb dX7_passesAll_29 rfl (lv_at hl 0 rfl) ?_
  refine lv_aload_n hx hb dX7_passesAll_30 rfl (lv_at hl 0 rfl) ?_
  refine va_get (D := D) (ci := 7) (v := .ref (a 4)) (C := RX7) (T := TX7) (N := 33) hx hb hts in_Mo hown hK hP 0 rfl rfl 3 (by decide) ln_19 (fun _ h9 => h9) rfl dX7_passesAll_31 ?_
  have hFc := fr_self hD hS hA
  refine gv_v (va_runV (As := [.ref (a 4)]) (rest := []) ⟨hx, hb, hml, hown, hts⟩ (c_X7_passes_3 l D k a u_8 H.size _ h) (cwV 1 hts gX7_passesAll_X7_passes rfl rfl rfl (by decide +kernel) ⟨Nat.le_of_ble_eq_true rfl, Nat.le_of_ble_eq_true rfl⟩) (gv_preV hK hnw hP hD (ci := 7) rfl 0 rfl) rfl rfl hl.1 rfl (lv_room (Nat.le_of_ble_eq_true rfl)) dX7_passesAll_34 ⟨Nat.zero_le _, Nat.zero_le _⟩) hS hFc (fun u_10 H locs h hP1 hD1 hk1 hS => ?_)
  have hP := hP1
  have hD := hD1.weaken (fun _ _ _ z => hFc _ z)
  refine lv_aload_n hx hb dX7_passesAll_37 rfl (lv_at hl 0 rfl) ?_
  refine lv_aload_n hx hb dX7_passesAll_38 rfl (lv_at hl 0 rfl) ?_
  refine va_get (D := D) (ci := 7) (v := .ref (a 5)) (C := RX7) (T := TX7) (N := 33) hx hb hts in_Mo hown hK hP 0 rfl rfl 4 (by decide) ln_22 (fun _ h9 => h9) rfl dX7_passesAll_39 ?_
  have hFc := fr_self hD hS hA
  refine gv_v (va_runV (As := [.ref (a 5)]) (rest := []) ⟨hx, hb, hml, hown, hts⟩ (c_X7_passes_4 l D k a u_10 H.size _ h) (cwV 1 hts gX7_passesAll_X7_passes rfl rfl rfl (by decide +kernel) ⟨Nat.le_of_ble_eq_true rfl, Nat.le_of_ble_eq_true rfl⟩) (gv_preV hK hnw hP hD (ci := 7) rfl 0 rfl) rfl rfl hl.1 rfl (lv_room (Nat.le_of_ble_eq_true rfl)) dX7_passesAll_42 ⟨Nat.zero_le _, Nat.zero_le _⟩) hS hFc (fun u_12 H locs h hP1 hD1 hk1 hS => ?_)
  have hP := hP1
  have hD := hD1.weaken (fun _ _ _ z => hFc _ z)
  refine lv_aload_n hx hb dX7_passesAll_45 rfl (lv_at hl 0 rfl) ?_
  refine lv_aload_n hx hb dX7_passesAll_46 rfl (lv_at hl 0 rfl) ?_
  refine lv_aload_n hx hb dX7_passesAll_47 rfl (lv_at hl 0 rfl) ?_
  refine va_get (D := D) (ci := 7) (v := .int (u_12.1 5)) (C := RX7) (T := TX7) (N := 33) hx hb hts in_Mo hown hK hP 0 rfl rfl 5 (by decide) ln_70 (fun _ h9 => h9) rfl dX7_passesAll_48 ?_
  have hFc := fr_self hD hS hA
  refine gv_i (va_runV (As := [.int (u_12.1 5)]) (rest := [.ref (a 0)]) ⟨hx, hb, hml, hown, hts⟩ (c_X7_passOne l D k a u_12 H.size (u_12.1 5) _ h) (cwV 1 hts gX7_passesAll_X7_passOne rfl rfl rfl (by decide +kernel) ⟨Nat.le_of_ble_eq_true rfl, Nat.le_of_ble_eq_true rfl⟩) (gv_preV hK hnw hP hD (ci := 7) rfl 0 rfl) rfl rfl hl.1 rfl (lv_room (Nat.le_of_ble_eq_true rfl)) dX7_passesAll_51 ⟨Nat.zero_le _, Nat.zero_le _⟩) hS hFc (fun r_13 u_14 H locs h hP1 hD1 hk1 hS => ?_)
  have hP := hP1
  have hD := hD1.weaken (fun _ _ _ z => hFc _ z)
  refine va_put (D := D) (ci := 7) (v := .int r_13) (ty := .int) (C := RX7) (T := TX7) (N := 33) hx hb hts in_Mo tyX7 tyX7_ok nmX7 hown hK hP hD hS 0 rfl rfl 5 (by decide) ln_70 (fun _ h9 => h9) rfl (by decide +kernel) rfl rfl (Nat.le_of_ble_eq_true rfl) dX7_passesAll_54 (fun H locs hP hD hS => ?_)
  obtain ⟨S_15, e_16⟩ : ∃ z : St, z = (sI u_14 5 r_13) := ⟨_, rfl⟩
  have h := h S_15 e_16
  have hP : va_P D vwCl (wMo k a S_15) H := by rw [e_16]; exact hP
  have hD : va_D A (wMo k a S_15) := by rw [e_16]; exact hD
  refine lv_aload_n hx hb dX7_passesAll_57 rfl (lv_at hl 0 rfl) ?_
  refine lv_aload_n hx hb dX7_passesAll_58 rfl (lv_at hl 0 rfl) ?_
  refine lv_aload_n hx hb dX7_passesAll_59 rfl (lv_at hl 0 rfl) ?_
  refine va_get (D := D) (ci := 7) (v := .int (S_15.1 6)) (C := RX7) (T := TX7) (N := 33) hx hb hts in_Mo hown hK hP 0 rfl rfl 6 (by decide) ln_109 (fun _ h9 => h9) rfl dX7_passesAll_60 ?_
  have hFc := fr_self hD hS hA
  refine gv_i (va_runV (As := [.int (S_15.1 6)]) (rest := [.ref (a 0)]) ⟨hx, hb, hml, hown, hts⟩ (c_X7_passOne l D k a S_15 H.size (S_15.1 6) _ h) (cwV 1 hts gX7_passesAll_X7_passOne rfl rfl rfl (by decide +kernel) ⟨Nat.le_of_ble_eq_true rfl, Nat.le_of_ble_eq_true rfl⟩) (gv_preV hK hnw hP hD (ci := 7) rfl 0 rfl) rfl rfl hl.1 rfl (lv_room (Nat.le_of_ble_eq_true rfl)) dX7_passesAll_63 ⟨Nat.zero_le _, Nat.zero_le _⟩) hS hFc (fun r_17 u_18 H locs h hP1 hD1 hk1 hS => ?_)
  have hP := hP1
  have hD := hD1.weaken (fun _ _ _ z => hFc _ z)
  refine va_put (D := D) (ci := 7) (v := .int r_17) (ty := .int) (C := RX7) (T := TX7) (N := 33) hx hb hts in_Mo tyX7 tyX7_ok nmX7 hown hK hP hD hS 0 rfl rfl 6 (by decide) ln_109 (fun _ h9 => h9) rfl (by decide +kernel) rfl rfl (Nat.le_of_ble_eq_true rfl) dX7_passesAll_66 (fun H locs hP hD hS => ?_)
  obtain ⟨S_19, e_20⟩ : ∃ z : St, z = (sI u_18 6 r_17) := ⟨_, rfl⟩
  have h := h S_19 e_20
  have hP : va_P D vwCl (wMo k a S_19) H := by rw [e_20]; exact hP
  have hD : va_D A (wMo k a S_19) := by rw [e_20]; exact hD
  exact W.vret hx hb hr (fun t ht hW => ⟨⟨S_19, rfl, h, by rw [ht]; exact hP, va_K.moved hW.alike hK, hD⟩, hS.F ht⟩) hS.2.2 dX7_passesAll_69
/-! X7_ball -/
def wp_X7_ball_86 (Q : Int32 → St → Prop) : Nat → St → Int32 → Prop
  | 0, _, _ => False
  | n + 1, S0, x2 => (((S0.1 14) ≤ x2) → (Q (S0.1 14) S0)) ∧ ((¬ (S0.1 14) ≤ x2) → (wp_X7_comes S0 x2 (fun r_12 u_13 => ((r_12 = 0) → (wp_X7_passesAll u_13 (1 : Int32) (0 : Int32) (fun u_16 => vp_in x2 32 ∧ (Q ((-2000 : Int32) - (u_16.2 9 x2.toNatClampNeg)) u_16)))) ∧ ((¬ r_12 = 0) → (wp_X7_ball_86 Q n u_13 (x2 + 1))))))
def wp_X7_ball_60 (Q : Int32 → St → Prop) (S0 : St) (x1 : Int32) : Prop := ∀ S_6, S_6 = (sI S0 12 (0 : Int32)) → (((¬ x1 = 0) → (wp_X7_passesAll S_6 (1 : Int32) (1 : Int32) (fun u_10 => ∃ i, wp_X7_ball_86 Q i u_10 (0 : Int32)))) ∧ ((x1 = 0) → (Q ((-1000 : Int32) - (S_6.1 13)) S_6)))
def wp_X7_ball_34 (K12 : St → Int32 → Prop) (Q : Int32 → St → Prop) (S0 : St) : Prop := wp_X7_statement S0 (fun r_19 u_20 => ((r_19 = 0) → (∀ S_22, S_22 = (sI u_20 14 ((u_20.1 14) + (0 : Int32))) → (K12 S_22 r_19))) ∧ ((¬ r_19 = 0) → (∀ S_24, S_24 = (sI u_20 14 ((u_20.1 14) + (1 : Int32))) → (K12 S_24 r_19))))
def wp_X7_ball_12 (Q : Int32 → St → Prop) : Nat → St → Int32 → Prop
  | 0, _, _ => False
  | n + 1, S0, x1 => ((x1 = 0) → (wp_X7_ball_60 Q S0 x1)) ∧ ((¬ x1 = 0) → ((((S0.1 13) < (S0.1 12)) → (wp_X7_ball_34 (fun s0 v0 => wp_X7_ball_12 Q n s0 v0) Q S0)) ∧ ((¬ (S0.1 13) < (S0.1 12)) → (((¬ (S0.1 14) = 0) → (wp_X7_ball_60 Q S0 x1)) ∧ (((S0.1 14) = 0) → (wp_X7_ball_34 (fun s0 v0 => wp_X7_ball_12 Q n s0 v0) Q S0))))))
def wp_X7_ball (S0 : St) (Q : Int32 → St → Prop) : Prop := ∀ S_1, S_1 = (sI S0 13 (0 : Int32)) → (∀ S_3, S_3 = (sI S_1 14 (0 : Int32)) → (∃ i, wp_X7_ball_12 Q i S_3 (1 : Int32)))
abbrev rmX7_ball : Room := { frames := 3, cells := 0, slots := 0, locals := 64 }
set_option maxRecDepth 100000 in
set_option maxHeartbeats 4000000 in
theorem c_X7_ball (l : Launch) (D : va_G) (k : Nat → ClassId) (a : Nat → Nat) (S0 : St) (sz : Nat) (Q : Int32 → St → Prop) (h : wp_X7_ball S0 Q) : Met l yX7_ball wsX7_ball rmX7_ball (cPc D k (wMo k a S0) [.ref (a 0)] sz) (va_Qi (fun (r : Int32) (u : St) => Q r u) (cB D k (va_A (wMo k a S0) sz) (fun u : St => wMo k a u)) (va_A (wMo k a S0) sz)) 0 0 (va_A (wMo k a S0) sz) := by
  refine ct_entry (cc := cX7_ball) (maxL := 3) (ret := (some .int)) (Rn := RX7) (Qc := fun A => (va_Qi (fun (r : Int32) (u : St) => Q r u) (cB D k A (fun u : St => wMo k a u)) A)) (by decide) rfl rfl (Nat.le_of_ble_eq_true rfl) ?_
  intro p e s m below meth c hx hb hr hlocks hml hts hown hnw hK A hA H locs hP hD hS ls hl
  have hl : lv_has ls 3 [(0, .ref (a 0))] := hl
  have ln_103 := hts (.fieldLink RX7 103 "WithTheSameOneModel" "statements" "I") (by decide +kernel)
  have ln_31 := hts (.fieldLink RX7 31 "WithTheSameOneModel" "letterAt" "[I") (by decide +kernel)
  have ln_86 := hts (.fieldLink RX7 86 "WithTheSameOneModel" "taped" "I") (by decide +kernel)
  have ln_92 := hts (.fieldLink RX7 92 "WithTheSameOneModel" "at" "I") (by decide +kernel)
  have in_Mo : ∀ w ∈ wsX70, w ∈ wsX7_ball := fun _ h => List.mem_cons_of_mem _ (List.mem_append_right _ h)
  have L_86 : ∀ (n : Nat), ∀ (S0 : St) (x2 : Int32), ∀ (H : Heap) (locs : List Loc) (ls : Array Slot), va_P D vwCl (wMo k a S0) H → va_D A (wMo k a S0) → va_S A s.heap H locs → lv_has ls 3 [(0, .ref (a 0)), (2, .int x2)] → wp_X7_ball_86 Q n S0 x2 → W p l e rmX7_ball s m ([.ref (a 0)] : List Value).toArray below meth c H locs 0 0 (MQ below (va_Qi (fun (r : Int32) (u : St) => Q r u) (cB D k A (fun u : St => wMo k a u)) A) ([.ref (a 0)] : List Value).toArray s 0 0 A) (F0 m 86 ls []) := by
    intro n
    induction n with
    | zero => intro S0 x2 H locs ls hP hD hS hl h; exact absurd h (by unfold wp_X7_ball_86; exact id)
    | succ n ih =>
      intro S0 x2 H locs ls hP hD hS hl h
      unfold wp_X7_ball_86 at h
      refine lv_iload_n hx hb dX7_ball_86 rfl (lv_at hl 1 rfl) ?_
      refine lv_aload_n hx hb dX7_ball_87 rfl (lv_at hl 0 rfl) ?_
      refine va_get (D := D) (ci := 7) (v := .int (S0.1 14)) (C := RX7) (T := TX7) (N := 33) hx hb hts in_Mo hown hK hP 0 rfl rfl 14 (by decide) ln_103 (fun _ h9 => h9) rfl dX7_ball_88 ?_
      refine lv_icmp_ge (tgt := 128) hx hb dX7_ball_91 (by decide) (fun c_11 => ?_) (fun c_11 => ?_)
      · have h := h.1 c_11
        refine lv_aload_n hx hb dX7_ball_128 rfl (lv_at hl 0 rfl) ?_
        refine va_get (D := D) (ci := 7) (v := .int (S0.1 14)) (C := RX7) (T := TX7) (N := 33) hx hb hts in_Mo hown hK hP 0 rfl rfl 14 (by decide) ln_103 (fun _ h9 => h9) rfl dX7_ball_129 ?_
        exact W.iret (v := (S0.1 14)) hx hb hr (fun t ht hW => ⟨⟨(S0.1 14), S0, rfl, h, by rw [ht]; exact hP, va_K.moved hW.alike hK, hD⟩, hS.F ht⟩) hS.2.2 dX7_ball_132
      · have h := h.2 c_11
        refine lv_aload_n hx hb dX7_ball_94 rfl (lv_at hl 0 rfl) ?_
        refine lv_iload_n hx hb dX7_ball_95 rfl (lv_at hl 1 rfl) ?_
        have hFc := fr_self hD hS hA
        refine gv_i (va_runV (As := [.int x2]) (rest := []) ⟨hx, hb, hml, hown, hts⟩ (c_X7_comes l D k a S0 H.size x2 _ h) (cwV 1 hts gX7_ball_X7_comes rfl rfl rfl (by decide +kernel) ⟨Nat.le_of_ble_eq_true rfl, Nat.le_of_ble_eq_true rfl⟩) (gv_preV hK hnw hP hD (ci := 7) rfl 0 rfl) rfl rfl hl.1 rfl (lv_room (Nat.le_of_ble_eq_true rfl)) dX7_ball_96 ⟨Nat.zero_le _, Nat.zero_le _⟩) hS hFc (fun r_12 u_13 H locs h hP1 hD1 hk1 hS => ?_)
        have hP := hP1
        have hD := hD1.weaken (fun _ _ _ z => hFc _ z)
        refine lv_if_eq (tgt := 105) hx hb dX7_ball_99 (by decide) (fun c_14 => ?_) (fun c_14 => ?_)
        · have h := h.1 c_14
          refine lv_aload_n hx hb dX7_ball_105 rfl (lv_at hl 0 rfl) ?_
          refine lv_iconst (v := (1 : Int32)) hx hb dX7_ball_106 (by decide) ?_
          refine lv_iconst (v := (0 : Int32)) hx hb dX7_ball_107 (by decide) ?_
          have hFc := fr_self hD hS hA
          refine gv_v (va_runV (As := [.int (1 : Int32), .int (0 : Int32)]) (rest := []) ⟨hx, hb, hml, hown, hts⟩ (c_X7_passesAll l D k a u_13 H.size (1 : Int32) (0 : Int32) _ h) (cwV 2 hts gX7_ball_X7_passesAll rfl rfl rfl (by decide +kernel) ⟨Nat.le_of_ble_eq_true rfl, Nat.le_of_ble_eq_true rfl⟩) (gv_preV hK hnw hP hD (ci := 7) rfl 0 rfl) rfl rfl hl.1 rfl (lv_room (Nat.le_of_ble_eq_true rfl)) dX7_ball_108 ⟨Nat.zero_le _, Nat.zero_le _⟩) hS hFc (fun u_16 H locs h hP1 hD1 hk1 hS => ?_)
          have hP := hP1
          have hD := hD1.weaken (fun _ _ _ z => hFc _ z)
          refine lv_sipush (v := (-2000 : Int32)) hx hb dX7_ball_111 (by decide) ?_
          refine lv_aload_n hx hb dX7_ball_114 rfl (lv_at hl 0 rfl) ?_
          refine va_get (D := D) (ci := 7) (v := .ref (a 8)) (C := RX7) (T := TX7) (N := 33) hx hb hts in_Mo hown hK hP 0 rfl rfl 9 (by decide) ln_31 (fun _ h9 => h9) rfl dX7_ball_115 ?_
          refine lv_iload_n hx hb dX7_ball_118 rfl (lv_at hl 1 rfl) ?_
          refine va_iald hx hb hK hP 8 0 rfl rfl h.1 dX7_ball_119 ?_
          have h := h.2
          refine lv_isub hx hb dX7_ball_120 ?_
          exact W.iret (v := ((-2000 : Int32) - (u_16.2 9 x2.toNatClampNeg))) hx hb hr (fun t ht hW => ⟨⟨((-2000 : Int32) - (u_16.2 9 x2.toNatClampNeg)), u_16, rfl, h, by rw [ht]; exact hP, va_K.moved hW.alike hK, hD⟩, hS.F ht⟩) hS.2.2 dX7_ball_121
        · have h := h.2 c_14
          refine lv_goto (tgt := 122) hx hb dX7_ball_102 (by decide) ?_
          refine lv_iinc (v := (x2 + 1)) (lv' := [(2, .int (x2 + 1)), (0, .ref (a 0))]) hx hb dX7_ball_122 hl (k := 1) rfl rfl (by decide) rfl (fun ls hl => ?_)
          refine lv_goto (tgt := 86) hx hb dX7_ball_125 (by decide) ?_
          exact ih u_13 (x2 + 1) H locs ls hP hD hS (lv_sub hl [1, 0] rfl) h
  have L_60 : ∀ (S0 : St) (x1 : Int32), ∀ (H : Heap) (locs : List Loc) (ls : Array Slot), va_P D vwCl (wMo k a S0) H → va_D A (wMo k a S0) → va_S A s.heap H locs → lv_has ls 3 [(0, .ref (a 0)), (1, .int x1)] → wp_X7_ball_60 Q S0 x1 → W p l e rmX7_ball s m ([.ref (a 0)] : List Value).toArray below meth c H locs 0 0 (MQ below (va_Qi (fun (r : Int32) (u : St) => Q r u) (cB D k A (fun u : St => wMo k a u)) A) ([.ref (a 0)] : List Value).toArray s 0 0 A) (F0 m 60 ls []) := by
    intro S0 x1 H locs ls hP hD hS hl h
    unfold wp_X7_ball_60 at h
    refine lv_aload_n hx hb dX7_ball_60 rfl (lv_at hl 0 rfl) ?_
    refine lv_iconst (v := (0 : Int32)) hx hb dX7_ball_61 (by decide) ?_
    refine va_put (D := D) (ci := 7) (v := .int (0 : Int32)) (ty := .int) (C := RX7) (T := TX7) (N := 33) hx hb hts in_Mo tyX7 tyX7_ok nmX7 hown hK hP hD hS 0 rfl rfl 12 (by decide) ln_86 (fun _ h9 => h9) rfl (by decide +kernel) rfl rfl (Nat.le_of_ble_eq_true rfl) dX7_ball_62 (fun H locs hP hD hS => ?_)
    obtain ⟨S_6, e_7⟩ : ∃ z : St, z = (sI S0 12 (0 : Int32)) := ⟨_, rfl⟩
    have h := h S_6 e_7
    have hP : va_P D vwCl (wMo k a S_6) H := by rw [e_7]; exact hP
    have hD : va_D A (wMo k a S_6) := by rw [e_7]; exact hD
    refine lv_iload_n hx hb dX7_ball_65 rfl (lv_at hl 1 rfl) ?_
    refine lv_if_ne (tgt := 78) hx hb dX7_ball_66 (by decide) (fun c_8 => ?_) (fun c_8 => ?_)
    · have h := h.1 c_8
      refine lv_aload_n hx hb dX7_ball_78 rfl (lv_at hl 0 rfl) ?_
      refine lv_iconst (v := (1 : Int32)) hx hb dX7_ball_79 (by decide) ?_
      refine lv_iconst (v := (1 : Int32)) hx hb dX7_ball_80 (by decide) ?_
      have hFc := fr_self hD hS hA
      refine gv_v (va_runV (As := [.int (1 : Int32), .int (1 : Int32)]) (rest := []) ⟨hx, hb, hml, hown, hts⟩ (c_X7_passesAll l D k a S_6 H.size (1 : Int32) (1 : Int32) _ h) (cwV 2 hts gX7_ball_X7_passesAll rfl rfl rfl (by decide +kernel) ⟨Nat.le_of_ble_eq_true rfl, Nat.le_of_ble_eq_true rfl⟩) (gv_preV hK hnw hP hD (ci := 7) rfl 0 rfl) rfl rfl hl.1 rfl (lv_room (Nat.le_of_ble_eq_true rfl)) dX7_ball_81 ⟨Nat.zero_le _, Nat.zero_le _⟩) hS hFc (fun u_10 H locs h hP1 hD1 hk1 hS => ?_)
      have hP := hP1
      have hD := hD1.weaken (fun _ _ _ z => hFc _ z)
      refine lv_iconst (v := (0 : Int32)) hx hb dX7_ball_84 (by decide) ?_
      refine lv_istore_n (lv' := [(2, .int (0 : Int32)), (0, .ref (a 0)), (1, .int x1)]) hx hb dX7_ball_85 rfl hl (by decide) rfl (fun ls hl => ?_)
      obtain ⟨n_17, h⟩ := h
      exact L_86 n_17 u_10 (0 : Int32) H locs ls hP hD hS (lv_sub hl [1, 0] rfl) h
    · have h := h.2 c_8
      refine lv_sipush (v := (-1000 : Int32)) hx hb dX7_ball_69 (by decide) ?_
      refine lv_aload_n hx hb dX7_ball_72 rfl (lv_at hl 0 rfl) ?_
      refine va_get (D := D) (ci := 7) (v := .int (S_6.1 13)) (C := RX7) (T := TX7) (N := 33) hx hb hts in_Mo hown hK hP 0 rfl rfl 13 (by decide) ln_92 (fun _ h9 => h9) rfl dX7_ball_73 ?_
      refine lv_isub hx hb dX7_ball_76 ?_
      exact W.iret (v := ((-1000 : Int32) - (S_6.1 13))) hx hb hr (fun t ht hW => ⟨⟨((-1000 : Int32) - (S_6.1 13)), S_6, rfl, h, by rw [ht]; exact hP, va_K.moved hW.alike hK, hD⟩, hS.F ht⟩) hS.2.2 dX7_ball_77
  have L_34 : ∀ (K12 : St → Int32 → Prop), (∀ (S0 : St) (x1 : Int32), ∀ (H : Heap) (locs : List Loc) (ls : Array Slot), va_P D vwCl (wMo k a S0) H → va_D A (wMo k a S0) → va_S A s.heap H locs → lv_has ls 3 [(0, .ref (a 0)), (1, .int x1)] → K12 S0 x1 → W p l e rmX7_ball s m ([.ref (a 0)] : List Value).toArray below meth c H locs 0 0 (MQ below (va_Qi (fun (r : Int32) (u : St) => Q r u) (cB D k A (fun u : St => wMo k a u)) A) ([.ref (a 0)] : List Value).toArray s 0 0 A) (F0 m 12 ls [])) → ∀ (S0 : St), ∀ (H : Heap) (locs : List Loc) (ls : Array Slot), va_P D vwCl (wMo k a S0) H → va_D A (wMo k a S0) → va_S A s.heap H locs → lv_has ls 3 [(0, .ref (a 0))] → wp_X7_ball_34 K12 Q S0 → W p l e rmX7_ball s m ([.ref (a 0)] : List Value).toArray below meth c H locs 0 0 (MQ below (va_Qi (fun (r : Int32) (u : St) => Q r u) (cB D k A (fun u : St => wMo k a u)) A) ([.ref (a 0)] : List Value).toArray s 0 0 A) (F0 m 34 ls []) := by
    intro K12 hK12 S0 H locs ls hP hD hS hl h
    unfold wp_X7_ball_34 at h
    refine lv_aload_n hx hb dX7_ball_34 rfl (lv_at hl 0 rfl) ?_
    have hFc := fr_self hD hS hA
    refine gv_i (va_runV (As := []) (rest := []) ⟨hx, hb, hml, hown, hts⟩ (c_X7_statement l D k a S0 H.size _ h) (cwV 0 hts gX7_ball_X7_statement rfl rfl rfl (by decide +kernel) ⟨Nat.le_of_ble_eq_true rfl, Nat.le_of_ble_eq_true rfl⟩) (gv_preV hK hnw hP hD (ci := 7) rfl 0 rfl) rfl rfl hl.1 rfl (lv_room (Nat.le_of_ble_eq_true rfl)) dX7_ball_35 ⟨Nat.zero_le _, Nat.zero_le _⟩) hS hFc (fun r_19 u_20 H locs h hP1 hD1 hk1 hS => ?_)
    have hP := hP1
    have hD := hD1.weaken (fun _ _ _ z => hFc _ z)
    refine lv_istore_n (lv' := [(1, .int r_19), (0, .ref (a 0))]) hx hb dX7_ball_38 rfl hl (by decide) rfl (fun ls hl => ?_)
    refine lv_aload_n hx hb dX7_ball_39 rfl (lv_at hl 1 rfl) ?_
    refine lv_dup hx hb dX7_ball_40 rfl ?_
    refine va_get (D := D) (ci := 7) (v := .int (u_20.1 14)) (C := RX7) (T := TX7) (N := 33) hx hb hts in_Mo hown hK hP 0 rfl rfl 14 (by decide) ln_103 (fun _ h9 => h9) rfl dX7_ball_41 ?_
    refine lv_iload_n hx hb dX7_ball_44 rfl (lv_at hl 0 rfl) ?_
    refine lv_if_eq (tgt := 52) hx hb dX7_ball_45 (by decide) (fun c_21 => ?_) (fun c_21 => ?_)
    · have h := h.1 c_21
      refine lv_iconst (v := (0 : Int32)) hx hb dX7_ball_52 (by decide) ?_
      refine lv_iadd hx hb dX7_ball_53 ?_
      refine va_put (D := D) (ci := 7) (v := .int ((u_20.1 14) + (0 : Int32))) (ty := .int) (C := RX7) (T := TX7) (N := 33) hx hb hts in_Mo tyX7 tyX7_ok nmX7 hown hK hP hD hS 0 rfl rfl 14 (by decide) ln_103 (fun _ h9 => h9) rfl (by decide +kernel) rfl rfl (Nat.le_of_ble_eq_true rfl) dX7_ball_54 (fun H locs hP hD hS => ?_)
      obtain ⟨S_22, e_23⟩ : ∃ z : St, z = (sI u_20 14 ((u_20.1 14) + (0 : Int32))) := ⟨_, rfl⟩
      have h := h S_22 e_23
      have hP : va_P D vwCl (wMo k a S_22) H := by rw [e_23]; exact hP
      have hD : va_D A (wMo k a S_22) := by rw [e_23]; exact hD
      refine lv_goto (tgt := 12) hx hb dX7_ball_57 (by decide) ?_
      exact hK12 S_22 r_19 H locs ls hP hD hS (lv_sub hl [1, 0] rfl) h
    · have h := h.2 c_21
      refine lv_iconst (v := (1 : Int32)) hx hb dX7_ball_48 (by decide) ?_
      refine lv_goto (tgt := 53) hx hb dX7_ball_49 (by decide) ?_
      refine lv_iadd hx hb dX7_ball_53 ?_
      refine va_put (D := D) (ci := 7) (v := .int ((u_20.1 14) + (1 : Int32))) (ty := .int) (C := RX7) (T := TX7) (N := 33) hx hb hts in_Mo tyX7 tyX7_ok nmX7 hown hK hP hD hS 0 rfl rfl 14 (by decide) ln_103 (fun _ h9 => h9) rfl (by decide +kernel) rfl rfl (Nat.le_of_ble_eq_true rfl) dX7_ball_54 (fun H locs hP hD hS => ?_)
      obtain ⟨S_24, e_25⟩ : ∃ z : St, z = (sI u_20 14 ((u_20.1 14) + (1 : Int32))) := ⟨_, rfl⟩
      have h := h S_24 e_25
      have hP : va_P D vwCl (wMo k a S_24) H := by rw [e_25]; exact hP
      have hD : va_D A (wMo k a S_24) := by rw [e_25]; exact hD
      refine lv_goto (tgt := 12) hx hb dX7_ball_57 (by decide) ?_
      exact hK12 S_24 r_19 H locs ls hP hD hS (lv_sub hl [1, 0] rfl) h
  have L_12 : ∀ (n : Nat), ∀ (S0 : St) (x1 : Int32), ∀ (H : Heap) (locs : List Loc) (ls : Array Slot), va_P D vwCl (wMo k a S0) H → va_D A (wMo k a S0) → va_S A s.heap H locs → lv_has ls 3 [(0, .ref (a 0)), (1, .int x1)] → wp_X7_ball_12 Q n S0 x1 → W p l e rmX7_ball s m ([.ref (a 0)] : List Value).toArray below meth c H locs 0 0 (MQ below (va_Qi (fun (r : Int32) (u : St) => Q r u) (cB D k A (fun u : St => wMo k a u)) A) ([.ref (a 0)] : List Value).toArray s 0 0 A) (F0 m 12 ls []) := by
    intro n
    induction n with
    | zero => intro S0 x1 H locs ls hP hD hS hl h; exact absurd h (by unfold wp_X7_ball_12; exact id)
    | succ n ih =>
      intro S0 x1 H locs ls hP hD hS hl h
      unfold wp_X7_ball_12 at h
      refine lv_iload_n hx hb dX7_ball_12 rfl (lv_at hl 1 rfl) ?_
      refine lv_if_eq (tgt := 60) hx hb dX7_ball_13 (by decide) (fun c_5 => ?_) (fun c_5 => ?_)
      · have h := h.1 c_5
        exact L_60 S0 x1 H locs ls hP hD hS (lv_sub hl [0, 1] rfl) h
      · have h := h.2 c_5
        refine lv_aload_n hx hb dX7_ball_16 rfl (lv_at hl 0 rfl) ?_
        refine va_get (D := D) (ci := 7) (v := .int (S0.1 13)) (C := RX7) (T := TX7) (N := 33) hx hb hts in_Mo hown hK hP 0 rfl rfl 13 (by decide) ln_92 (fun _ h9 => h9) rfl dX7_ball_17 ?_
        refine lv_aload_n hx hb dX7_ball_20 rfl (lv_at hl 0 rfl) ?_
        refine va_get (D := D) (ci := 7) (v := .int (S0.1 12)) (C := RX7) (T := TX7) (N := 33) hx hb hts in_Mo hown hK hP 0 rfl rfl 12 (by decide) ln_86 (fun _ h9 => h9) rfl dX7_ball_21 ?_
        refine lv_icmp_lt (tgt := 34) hx hb dX7_ball_24 (by decide) (fun c_18 => ?_) (fun c_18 => ?_)
        · have h := h.1 c_18
          exact L_34 (fun s0 v0 => wp_X7_ball_12 Q n s0 v0) ih S0 H locs ls hP hD hS (lv_sub hl [0] rfl) h
        · have h := h.2 c_18
          refine lv_aload_n hx hb dX7_ball_27 rfl (lv_at hl 0 rfl) ?_
          refine va_get (D := D) (ci := 7) (v := .int (S0.1 14)) (C := RX7) (T := TX7) (N := 33) hx hb hts in_Mo hown hK hP 0 rfl rfl 14 (by decide) ln_103 (fun _ h9 => h9) rfl dX7_ball_28 ?_
          refine lv_if_ne (tgt := 60) hx hb dX7_ball_31 (by decide) (fun c_26 => ?_) (fun c_26 => ?_)
          · have h := h.1 c_26
            exact L_60 S0 x1 H locs ls hP hD hS (lv_sub hl [0, 1] rfl) h
          · have h := h.2 c_26
            exact L_34 (fun s0 v0 => wp_X7_ball_12 Q n s0 v0) ih S0 H locs ls hP hD hS (lv_sub hl [0] rfl) h
  unfold wp_X7_ball at h
  refine lv_aload_n hx hb dX7_ball_0 rfl (lv_at hl 0 rfl) ?_
  refine lv_iconst (v := (0 : Int32)) hx hb dX7_ball_1 (by decide) ?_
  refine va_put (D := D) (ci := 7) (v := .int (0 : Int32)) (ty := .int) (C := RX7) (T := TX7) (N := 33) hx hb hts in_Mo tyX7 tyX7_ok nmX7 hown hK hP hD hS 0 rfl rfl 13 (by decide) ln_92 (fun _ h9 => h9) rfl (by decide +kernel) rfl rfl (Nat.le_of_ble_eq_true rfl) dX7_ball_2 (fun H locs hP hD hS => ?_)
  obtain ⟨S_1, e_2⟩ : ∃ z : St, z = (sI S0 13 (0 : Int32)) := ⟨_, rfl⟩
  have h := h S_1 e_2
  have hP : va_P D vwCl (wMo k a S_1) H := by rw [e_2]; exact hP
  have hD : va_D A (wMo k a S_1) := by rw [e_2]; exact hD
  refine lv_aload_n hx hb dX7_ball_5 rfl (lv_at hl 0 rfl) ?_
  refine lv_iconst (v := (0 : Int32)) hx hb dX7_ball_6 (by decide) ?_
  refine va_put (D := D) (ci := 7) (v := .int (0 : Int32)) (ty := .int) (C := RX7) (T := TX7) (N := 33) hx hb hts in_Mo tyX7 tyX7_ok nmX7 hown hK hP hD hS 0 rfl rfl 14 (by decide) ln_103 (fun _ h9 => h9) rfl (by decide +kernel) rfl rfl (Nat.le_of_ble_eq_true rfl) dX7_ball_7 (fun H locs hP hD hS => ?_)
  obtain ⟨S_3, e_4⟩ : ∃ z : St, z = (sI S_1 14 (0 : Int32)) := ⟨_, rfl⟩
  have h := h S_3 e_4
  have hP : va_P D vwCl (wMo k a S_3) H := by rw [e_4]; exact hP
  have hD : va_D A (wMo k a S_3) := by rw [e_4]; exact hD
  refine lv_iconst (v := (1 : Int32)) hx hb dX7_ball_10 (by decide) ?_
  refine lv_istore_n (lv' := [(1, .int (1 : Int32)), (0, .ref (a 0))]) hx hb dX7_ball_11 rfl hl (by decide) rfl (fun ls hl => ?_)
  obtain ⟨n_27, h⟩ := h
  exact L_12 n_27 S_3 (1 : Int32) H locs ls hP hD hS (lv_sub hl [1, 0] rfl) h
