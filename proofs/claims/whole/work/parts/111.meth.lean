/-! X7_wanted -/
def wp_X7_wanted (S0 : St) (x1 : Int32) (x2 : Int32) (Q : Int32 → St → Prop) : Prop := wp_X7_areTwo S0 x1 x2 (fun r_1 u_2 => ((¬ r_1 = 0) → (wp_X7_haveDanced u_2 x1 x2 (fun r_4 u_5 => ((r_4 = 0) → (wp_X7_mayDance u_5 x1 x2 (fun r_7 u_8 => ((r_7 = 0) → (wp_X7_mayBehindOne u_8 x1 x2 (2 : Int32) (0 : Int32) (fun r_10 u_11 => ((r_10 = 0) → (wp_X7_mayBehindOne u_11 x1 x2 (2 : Int32) (1 : Int32) (fun r_13 u_14 => ((r_13 = 0) → (Q (-9 : Int32) u_14)) ∧ ((¬ r_13 = 0) → (Q (3 : Int32) u_14))))) ∧ ((¬ r_10 = 0) → (Q (2 : Int32) u_11))))) ∧ ((¬ r_7 = 0) → (Q (1 : Int32) u_8))))) ∧ ((¬ r_4 = 0) → (Q (0 : Int32) u_5))))) ∧ ((r_1 = 0) → (wp_X7_no u_2 (-1 : Int32) (fun r_16 u_17 => Q r_16 u_17))))
abbrev rmX7_wanted : Room := { frames := 6, cells := 0, slots := 0, locals := 152 }
set_option maxRecDepth 100000 in
set_option maxHeartbeats 4000000 in
theorem c_X7_wanted (l : Launch) (D : va_G) (k : Nat → ClassId) (a : Nat → Nat) (S0 : St) (sz : Nat) (x1 : Int32) (x2 : Int32) (Q : Int32 → St → Prop) (h : wp_X7_wanted S0 x1 x2 Q) : Met l yX7_wanted wsX7_wanted rmX7_wanted (cPc D k (wMo k a S0) [.ref (a 0), .int x1, .int x2] sz) (va_Qi (fun (r : Int32) (u : St) => Q r u) (cB D k (va_A (wMo k a S0) sz) (fun u : St => wMo k a u)) (va_A (wMo k a S0) sz)) 0 0 (va_A (wMo k a S0) sz) := by
  refine ct_entry (cc := cX7_wanted) (maxL := 3) (ret := (some .int)) (Rn := RX7) (Qc := fun A => (va_Qi (fun (r : Int32) (u : St) => Q r u) (cB D k A (fun u : St => wMo k a u)) A)) (by decide) rfl rfl (Nat.le_of_ble_eq_true rfl) ?_
  intro p e s m below meth c hx hb hr hlocks hml hts hown hnw hK A hA H locs hP hD hS ls hl
  have hl : lv_has ls 3 [(0, .ref (a 0)), (1, .int x1), (2, .int x2)] := hl
  unfold wp_X7_wanted at h
  refine lv_aload_n hx hb dX7_wanted_0 rfl (lv_at hl 0 rfl) ?_
  refine lv_iload_n hx hb dX7_wanted_1 rfl (lv_at hl 1 rfl) ?_
  refine lv_iload_n hx hb dX7_wanted_2 rfl (lv_at hl 2 rfl) ?_
  have hFc := fr_self hD hS hA
  refine gv_i (va_runV (As := [.int x1, .int x2]) (rest := []) ⟨hx, hb, hml, hown, hts⟩ (c_X7_areTwo l D k a S0 H.size x1 x2 _ h) (cwV 2 hts gX7_wanted_X7_areTwo rfl rfl rfl (by decide +kernel) ⟨Nat.le_of_ble_eq_true rfl, Nat.le_of_ble_eq_true rfl⟩) (gv_preV hK hnw hP hD (ci := 7) rfl 0 rfl) rfl rfl hl.1 rfl (lv_room (Nat.le_of_ble_eq_true rfl)) dX7_wanted_3 ⟨Nat.zero_le _, Nat.zero_le _⟩) hS hFc (fun r_1 u_2 H locs h hP1 hD1 hk1 hS => ?_)
  have hP := hP1
  have hD := hD1.weaken (fun _ _ _ z => hFc _ z)
  refine lv_if_ne (tgt := 15) hx hb dX7_wanted_6 (by decide) (fun c_3 => ?_) (fun c_3 => ?_)
  · have h := h.1 c_3
    refine lv_aload_n hx hb dX7_wanted_15 rfl (lv_at hl 0 rfl) ?_
    refine lv_iload_n hx hb dX7_wanted_16 rfl (lv_at hl 1 rfl) ?_
    refine lv_iload_n hx hb dX7_wanted_17 rfl (lv_at hl 2 rfl) ?_
    have hFc := fr_self hD hS hA
    refine gv_i (va_runV (As := [.int x1, .int x2]) (rest := []) ⟨hx, hb, hml, hown, hts⟩ (c_X7_haveDanced l D k a u_2 H.size x1 x2 _ h) (cwV 2 hts gX7_wanted_X7_haveDanced rfl rfl rfl (by decide +kernel) ⟨Nat.le_of_ble_eq_true rfl, Nat.le_of_ble_eq_true rfl⟩) (gv_preV hK hnw hP hD (ci := 7) rfl 0 rfl) rfl rfl hl.1 rfl (lv_room (Nat.le_of_ble_eq_true rfl)) dX7_wanted_18 ⟨Nat.zero_le _, Nat.zero_le _⟩) hS hFc (fun r_4 u_5 H locs h hP1 hD1 hk1 hS => ?_)
    have hP := hP1
    have hD := hD1.weaken (fun _ _ _ z => hFc _ z)
    refine lv_if_eq (tgt := 26) hx hb dX7_wanted_21 (by decide) (fun c_6 => ?_) (fun c_6 => ?_)
    · have h := h.1 c_6
      refine lv_aload_n hx hb dX7_wanted_26 rfl (lv_at hl 0 rfl) ?_
      refine lv_iload_n hx hb dX7_wanted_27 rfl (lv_at hl 1 rfl) ?_
      refine lv_iload_n hx hb dX7_wanted_28 rfl (lv_at hl 2 rfl) ?_
      have hFc := fr_self hD hS hA
      refine gv_i (va_runV (As := [.int x1, .int x2]) (rest := []) ⟨hx, hb, hml, hown, hts⟩ (c_X7_mayDance l D k a u_5 H.size x1 x2 _ h) (cwV 2 hts gX7_wanted_X7_mayDance rfl rfl rfl (by decide +kernel) ⟨Nat.le_of_ble_eq_true rfl, Nat.le_of_ble_eq_true rfl⟩) (gv_preV hK hnw hP hD (ci := 7) rfl 0 rfl) rfl rfl hl.1 rfl (lv_room (Nat.le_of_ble_eq_true rfl)) dX7_wanted_29 ⟨Nat.zero_le _, Nat.zero_le _⟩) hS hFc (fun r_7 u_8 H locs h hP1 hD1 hk1 hS => ?_)
      have hP := hP1
      have hD := hD1.weaken (fun _ _ _ z => hFc _ z)
      refine lv_if_eq (tgt := 37) hx hb dX7_wanted_32 (by decide) (fun c_9 => ?_) (fun c_9 => ?_)
      · have h := h.1 c_9
        refine lv_aload_n hx hb dX7_wanted_37 rfl (lv_at hl 0 rfl) ?_
        refine lv_iload_n hx hb dX7_wanted_38 rfl (lv_at hl 1 rfl) ?_
        refine lv_iload_n hx hb dX7_wanted_39 rfl (lv_at hl 2 rfl) ?_
        refine lv_iconst (v := (2 : Int32)) hx hb dX7_wanted_40 (by decide) ?_
        refine lv_iconst (v := (0 : Int32)) hx hb dX7_wanted_41 (by decide) ?_
        have hFc := fr_self hD hS hA
        refine gv_i (va_runV (As := [.int x1, .int x2, .int (2 : Int32), .int (0 : Int32)]) (rest := []) ⟨hx, hb, hml, hown, hts⟩ (c_X7_mayBehindOne l D k a u_8 H.size x1 x2 (2 : Int32) (0 : Int32) _ h) (cwV 4 hts gX7_wanted_X7_mayBehindOne rfl rfl rfl (by decide +kernel) ⟨Nat.le_of_ble_eq_true rfl, Nat.le_of_ble_eq_true rfl⟩) (gv_preV hK hnw hP hD (ci := 7) rfl 0 rfl) rfl rfl hl.1 rfl (lv_room (Nat.le_of_ble_eq_true rfl)) dX7_wanted_42 ⟨Nat.zero_le _, Nat.zero_le _⟩) hS hFc (fun r_10 u_11 H locs h hP1 hD1 hk1 hS => ?_)
        have hP := hP1
        have hD := hD1.weaken (fun _ _ _ z => hFc _ z)
        refine lv_if_eq (tgt := 50) hx hb dX7_wanted_45 (by decide) (fun c_12 => ?_) (fun c_12 => ?_)
        · have h := h.1 c_12
          refine lv_aload_n hx hb dX7_wanted_50 rfl (lv_at hl 0 rfl) ?_
          refine lv_iload_n hx hb dX7_wanted_51 rfl (lv_at hl 1 rfl) ?_
          refine lv_iload_n hx hb dX7_wanted_52 rfl (lv_at hl 2 rfl) ?_
          refine lv_iconst (v := (2 : Int32)) hx hb dX7_wanted_53 (by decide) ?_
          refine lv_iconst (v := (1 : Int32)) hx hb dX7_wanted_54 (by decide) ?_
          have hFc := fr_self hD hS hA
          refine gv_i (va_runV (As := [.int x1, .int x2, .int (2 : Int32), .int (1 : Int32)]) (rest := []) ⟨hx, hb, hml, hown, hts⟩ (c_X7_mayBehindOne l D k a u_11 H.size x1 x2 (2 : Int32) (1 : Int32) _ h) (cwV 4 hts gX7_wanted_X7_mayBehindOne rfl rfl rfl (by decide +kernel) ⟨Nat.le_of_ble_eq_true rfl, Nat.le_of_ble_eq_true rfl⟩) (gv_preV hK hnw hP hD (ci := 7) rfl 0 rfl) rfl rfl hl.1 rfl (lv_room (Nat.le_of_ble_eq_true rfl)) dX7_wanted_55 ⟨Nat.zero_le _, Nat.zero_le _⟩) hS hFc (fun r_13 u_14 H locs h hP1 hD1 hk1 hS => ?_)
          have hP := hP1
          have hD := hD1.weaken (fun _ _ _ z => hFc _ z)
          refine lv_if_eq (tgt := 65) hx hb dX7_wanted_58 (by decide) (fun c_15 => ?_) (fun c_15 => ?_)
          · have h := h.1 c_15
            refine lv_bipush (v := (-9 : Int32)) hx hb dX7_wanted_65 (by decide) ?_
            exact W.iret (v := (-9 : Int32)) hx hb hr (fun t ht hW => ⟨⟨(-9 : Int32), u_14, rfl, h, by rw [ht]; exact hP, va_K.moved hW.alike hK, hD⟩, hS.F ht⟩) hS.2.2 dX7_wanted_67
          · have h := h.2 c_15
            refine lv_iconst (v := (3 : Int32)) hx hb dX7_wanted_61 (by decide) ?_
            refine lv_goto (tgt := 67) hx hb dX7_wanted_62 (by decide) ?_
            exact W.iret (v := (3 : Int32)) hx hb hr (fun t ht hW => ⟨⟨(3 : Int32), u_14, rfl, h, by rw [ht]; exact hP, va_K.moved hW.alike hK, hD⟩, hS.F ht⟩) hS.2.2 dX7_wanted_67
        · have h := h.2 c_12
          refine lv_iconst (v := (2 : Int32)) hx hb dX7_wanted_48 (by decide) ?_
          exact W.iret (v := (2 : Int32)) hx hb hr (fun t ht hW => ⟨⟨(2 : Int32), u_11, rfl, h, by rw [ht]; exact hP, va_K.moved hW.alike hK, hD⟩, hS.F ht⟩) hS.2.2 dX7_wanted_49
      · have h := h.2 c_9
        refine lv_iconst (v := (1 : Int32)) hx hb dX7_wanted_35 (by decide) ?_
        exact W.iret (v := (1 : Int32)) hx hb hr (fun t ht hW => ⟨⟨(1 : Int32), u_8, rfl, h, by rw [ht]; exact hP, va_K.moved hW.alike hK, hD⟩, hS.F ht⟩) hS.2.2 dX7_wanted_36
    · have h := h.2 c_6
      refine lv_iconst (v := (0 : Int32)) hx hb dX7_wanted_24 (by decide) ?_
      exact W.iret (v := (0 : Int32)) hx hb hr (fun t ht hW => ⟨⟨(0 : Int32), u_5, rfl, h, by rw [ht]; exact hP, va_K.moved hW.alike hK, hD⟩, hS.F ht⟩) hS.2.2 dX7_wanted_25
  · have h := h.2 c_3
    refine lv_aload_n hx hb dX7_wanted_9 rfl (lv_at hl 0 rfl) ?_
    refine lv_iconst (v := (-1 : Int32)) hx hb dX7_wanted_10 (by decide) ?_
    have hFc := fr_self hD hS hA
    refine gv_i (va_runV (As := [.int (-1 : Int32)]) (rest := []) ⟨hx, hb, hml, hown, hts⟩ (c_X7_no l D k a u_2 H.size (-1 : Int32) _ h) (cwV 1 hts gX7_wanted_X7_no rfl rfl rfl (by decide +kernel) ⟨Nat.le_of_ble_eq_true rfl, Nat.le_of_ble_eq_true rfl⟩) (gv_preV hK hnw hP hD (ci := 7) rfl 0 rfl) rfl rfl hl.1 rfl (lv_room (Nat.le_of_ble_eq_true rfl)) dX7_wanted_11 ⟨Nat.zero_le _, Nat.zero_le _⟩) hS hFc (fun r_16 u_17 H locs h hP1 hD1 hk1 hS => ?_)
    have hP := hP1
    have hD := hD1.weaken (fun _ _ _ z => hFc _ z)
    exact W.iret (v := r_16) hx hb hr (fun t ht hW => ⟨⟨r_16, u_17, rfl, h, by rw [ht]; exact hP, va_K.moved hW.alike hK, hD⟩, hS.F ht⟩) hS.2.2 dX7_wanted_14
/-! X7_isNever -/
def wp_X7_isNever (S0 : St) (x1 : Int32) (x2 : Int32) (Q : Int32 → St → Prop) : Prop := wp_X7_closes S0 (S0.1 6) (-9 : Int32) (fun r_1 u_2 => vp_in x1 8 ∧ (((¬ (((u_2.2 19 x1.toNatClampNeg) >>> (x2 &&& 31)) &&& (1 : Int32)) = 0) → (Q (0 : Int32) u_2)) ∧ (((((u_2.2 19 x1.toNatClampNeg) >>> (x2 &&& 31)) &&& (1 : Int32)) = 0) → (Q (1 : Int32) u_2))))
abbrev rmX7_isNever : Room := { frames := 4, cells := 0, slots := 0, locals := 96 }
set_option maxRecDepth 100000 in
set_option maxHeartbeats 4000000 in
theorem c_X7_isNever (l : Launch) (D : va_G) (k : Nat → ClassId) (a : Nat → Nat) (S0 : St) (sz : Nat) (x1 : Int32) (x2 : Int32) (Q : Int32 → St → Prop) (h : wp_X7_isNever S0 x1 x2 Q) : Met l yX7_isNever wsX7_isNever rmX7_isNever (cPc D k (wMo k a S0) [.ref (a 0), .int x1, .int x2] sz) (va_Qi (fun (r : Int32) (u : St) => Q r u) (cB D k (va_A (wMo k a S0) sz) (fun u : St => wMo k a u)) (va_A (wMo k a S0) sz)) 0 0 (va_A (wMo k a S0) sz) := by
  refine ct_entry (cc := cX7_isNever) (maxL := 3) (ret := (some .boolean)) (Rn := RX7) (Qc := fun A => (va_Qi (fun (r : Int32) (u : St) => Q r u) (cB D k A (fun u : St => wMo k a u)) A)) (by decide) rfl rfl (Nat.le_of_ble_eq_true rfl) ?_
  intro p e s m below meth c hx hb hr hlocks hml hts hown hnw hK A hA H locs hP hD hS ls hl
  have hl : lv_has ls 3 [(0, .ref (a 0)), (1, .int x1), (2, .int x2)] := hl
  have ln_109 := hts (.fieldLink RX7 109 "WithTheSameOneModel" "law" "I") (by decide +kernel)
  have ln_43 := hts (.fieldLink RX7 43 "WithTheSameOneModel" "end" "[I") (by decide +kernel)
  have in_Mo : ∀ w ∈ wsX70, w ∈ wsX7_isNever := fun _ h => List.mem_cons_of_mem _ (List.mem_append_right _ h)
  unfold wp_X7_isNever at h
  refine lv_aload_n hx hb dX7_isNever_0 rfl (lv_at hl 0 rfl) ?_
  refine lv_aload_n hx hb dX7_isNever_1 rfl (lv_at hl 0 rfl) ?_
  refine va_get (D := D) (ci := 7) (v := .int (S0.1 6)) (C := RX7) (T := TX7) (N := 33) hx hb hts in_Mo hown hK hP 0 rfl rfl 6 (by decide) ln_109 (fun _ h9 => h9) rfl dX7_isNever_2 ?_
  refine lv_bipush (v := (-9 : Int32)) hx hb dX7_isNever_5 (by decide) ?_
  have hFc := fr_self hD hS hA
  refine gv_i (va_runV (As := [.int (S0.1 6), .int (-9 : Int32)]) (rest := []) ⟨hx, hb, hml, hown, hts⟩ (c_X7_closes l D k a S0 H.size (S0.1 6) (-9 : Int32) _ h) (cwV 2 hts gX7_isNever_X7_closes rfl rfl rfl (by decide +kernel) ⟨Nat.le_of_ble_eq_true rfl, Nat.le_of_ble_eq_true rfl⟩) (gv_preV hK hnw hP hD (ci := 7) rfl 0 rfl) rfl rfl hl.1 rfl (lv_room (Nat.le_of_ble_eq_true rfl)) dX7_isNever_7 ⟨Nat.zero_le _, Nat.zero_le _⟩) hS hFc (fun r_1 u_2 H locs h hP1 hD1 hk1 hS => ?_)
  have hP := hP1
  have hD := hD1.weaken (fun _ _ _ z => hFc _ z)
  refine lv_pop hx hb dX7_isNever_10 rfl ?_
  refine lv_aload_n hx hb dX7_isNever_11 rfl (lv_at hl 0 rfl) ?_
  refine va_get (D := D) (ci := 7) (v := .ref (a 12)) (C := RX7) (T := TX7) (N := 33) hx hb hts in_Mo hown hK hP 0 rfl rfl 19 (by decide) ln_43 (fun _ h9 => h9) rfl dX7_isNever_12 ?_
  refine lv_iload_n hx hb dX7_isNever_15 rfl (lv_at hl 1 rfl) ?_
  refine va_iald hx hb hK hP 12 0 rfl rfl h.1 dX7_isNever_16 ?_
  have h := h.2
  refine lv_iload_n hx hb dX7_isNever_17 rfl (lv_at hl 2 rfl) ?_
  refine lv_ishr hx hb dX7_isNever_18 ?_
  refine lv_iconst (v := (1 : Int32)) hx hb dX7_isNever_19 (by decide) ?_
  refine lv_iand hx hb dX7_isNever_20 ?_
  refine lv_if_ne (tgt := 28) hx hb dX7_isNever_21 (by decide) (fun c_3 => ?_) (fun c_3 => ?_)
  · have h := h.1 c_3
    refine lv_iconst (v := (0 : Int32)) hx hb dX7_isNever_28 (by decide) ?_
    exact W.zret (v := (0 : Int32)) hx hb hr rfl (fun t ht hW => ⟨⟨(0 : Int32), u_2, rfl, h, by rw [ht]; exact hP, va_K.moved hW.alike hK, hD⟩, hS.F ht⟩) hS.2.2 dX7_isNever_29
  · have h := h.2 c_3
    refine lv_iconst (v := (1 : Int32)) hx hb dX7_isNever_24 (by decide) ?_
    refine lv_goto (tgt := 29) hx hb dX7_isNever_25 (by decide) ?_
    exact W.zret (v := (1 : Int32)) hx hb hr rfl (fun t ht hW => ⟨⟨(1 : Int32), u_2, rfl, h, by rw [ht]; exact hP, va_K.moved hW.alike hK, hD⟩, hS.F ht⟩) hS.2.2 dX7_isNever_29
/-! X7_off -/
def wp_X7_off_152 (K37 : St → Int32 → Int32 → Prop) (x1 : Int32) (x2 : Int32) (Q : Int32 → St → Prop) (S0 : St) (x3 : Int32) (x4 : Int32) : Prop := vp_in x4 28 ∧ (vp_in x4 28 ∧ (wp_X7_joins S0 (S0.2 23 x4.toNatClampNeg) (S0.2 24 x4.toNatClampNeg) (fun u_18 => K37 u_18 x3 (x4 + 1))))
def wp_X7_off_128 (K86 : St → Int32 → Int32 → Int32 → Prop) (K37 : St → Int32 → Int32 → Prop) (x1 : Int32) (x2 : Int32) (Q : Int32 → St → Prop) (S0 : St) (x3 : Int32) (x4 : Int32) (x5 : Int32) : Prop := vp_in x5 28 ∧ (vp_in x5 28 ∧ (wp_X7_joins S0 (S0.2 23 x5.toNatClampNeg) (S0.2 24 x5.toNatClampNeg) (fun u_26 => K86 u_26 x3 x4 (x5 + 1))))
def wp_X7_off_86 (K37 : St → Int32 → Int32 → Prop) (x1 : Int32) (x2 : Int32) (Q : Int32 → St → Prop) : Nat → St → Int32 → Int32 → Int32 → Prop
  | 0, _, _, _, _ => False
  | n + 1, S0, x3, x4, x5 => (((S0.1 25) ≤ x5) → (wp_X7_off_152 K37 x1 x2 Q S0 x3 x4)) ∧ ((¬ (S0.1 25) ≤ x5) → (((0 ≤ x3) → (wp_X7_off_152 K37 x1 x2 Q S0 x3 x4)) ∧ ((¬ 0 ≤ x3) → (vp_in x5 28 ∧ (vp_in x5 28 ∧ (wp_X7_parts S0 (S0.2 23 x5.toNatClampNeg) (S0.2 24 x5.toNatClampNeg) (fun u_21 => wp_X7_isNever u_21 x1 x2 (fun r_22 u_23 => ((r_22 = 0) → (wp_X7_off_128 (fun s0 v0 v1 v2 => wp_X7_off_86 K37 x1 x2 Q n s0 v0 v1 v2) K37 x1 x2 Q u_23 x3 x4 x5)) ∧ ((¬ r_22 = 0) → (wp_X7_off_128 (fun s0 v0 v1 v2 => wp_X7_off_86 K37 x1 x2 Q n s0 v0 v1 v2) K37 x1 x2 Q u_23 (2 : Int32) x4 x5))))))))))
def wp_X7_off_37 (x1 : Int32) (x2 : Int32) (Q : Int32 → St → Prop) : Nat → St → Int32 → Int32 → Prop
  | 0, _, _, _ => False
  | n + 1, S0, x3, x4 => (((S0.1 25) ≤ x4) → (Q x3 S0)) ∧ ((¬ (S0.1 25) ≤ x4) → (((x3 = (1 : Int32)) → (Q x3 S0)) ∧ ((¬ x3 = (1 : Int32)) → (vp_in x4 28 ∧ (vp_in x4 28 ∧ (wp_X7_parts S0 (S0.2 23 x4.toNatClampNeg) (S0.2 24 x4.toNatClampNeg) (fun u_12 => wp_X7_isNever u_12 x1 x2 (fun r_13 u_14 => ((r_13 = 0) → (∃ i, wp_X7_off_86 (fun s0 v0 v1 => wp_X7_off_37 x1 x2 Q n s0 v0 v1) x1 x2 Q i u_14 x3 x4 (x4 + (1 : Int32)))) ∧ ((¬ r_13 = 0) → (∃ i, wp_X7_off_86 (fun s0 v0 v1 => wp_X7_off_37 x1 x2 Q n s0 v0 v1) x1 x2 Q i u_14 (1 : Int32) x4 (x4 + (1 : Int32))))))))))))
def wp_X7_off (S0 : St) (x1 : Int32) (x2 : Int32) (Q : Int32 → St → Prop) : Prop := wp_X7_areTwo S0 x1 x2 (fun r_1 u_2 => ((¬ r_1 = 0) → (wp_X7_isNever u_2 x1 x2 (fun r_4 u_5 => ((r_4 = 0) → (wp_X7_findPairs u_5 (1 : Int32) (fun u_8 => ∃ i, wp_X7_off_37 x1 x2 Q i u_8 (-9 : Int32) (0 : Int32)))) ∧ ((¬ r_4 = 0) → (Q (0 : Int32) u_5))))) ∧ ((r_1 = 0) → (wp_X7_no u_2 (-1 : Int32) (fun r_30 u_31 => Q r_30 u_31))))
abbrev rmX7_off : Room := { frames := 5, cells := 0, slots := 0, locals := 118 }
set_option maxRecDepth 100000 in
set_option maxHeartbeats 4000000 in
theorem c_X7_off (l : Launch) (D : va_G) (k : Nat → ClassId) (a : Nat → Nat) (S0 : St) (sz : Nat) (x1 : Int32) (x2 : Int32) (Q : Int32 → St → Prop) (h : wp_X7_off S0 x1 x2 Q) : Met l yX7_off wsX7_off rmX7_off (cPc D k (wMo k a S0) [.ref (a 0), .int x1, .int x2] sz) (va_Qi (fun (r : Int32) (u : St) => Q r u) (cB D k (va_A (wMo k a S0) sz) (fun u : St => wMo k a u)) (va_A (wMo k a S0) sz)) 0 0 (va_A (wMo k a S0) sz) := by
  refine ct_entry (cc := cX7_off) (maxL := 6) (ret := (some .int)) (Rn := RX7) (Qc := fun A => (va_Qi (fun (r : Int32) (u : St) => Q r u) (cB D k A (fun u : St => wMo k a u)) A)) (by decide) rfl rfl (Nat.le_of_ble_eq_true rfl) ?_
  intro p e s m below meth c hx hb hr hlocks hml hts hown hnw hK A hA H locs hP hD hS ls hl
  have hl : lv_has ls 6 [(0, .ref (a 0)), (1, .int x1), (2, .int x2)] := hl
  have ln_199 := hts (.fieldLink RX7 199 "WithTheSameOneModel" "pairs" "I") (by decide +kernel)
  have ln_52 := hts (.fieldLink RX7 52 "WithTheSameOneModel" "pairA" "[I") (by decide +kernel)
  have ln_55 := hts (.fieldLink RX7 55 "WithTheSameOneModel" "pairB" "[I") (by decide +kernel)
  have in_Mo : ∀ w ∈ wsX70, w ∈ wsX7_off := fun _ h => List.mem_cons_of_mem _ (List.mem_append_right _ h)
  have L_152 : ∀ (K37 : St → Int32 → Int32 → Prop), (∀ (S0 : St) (x3 : Int32) (x4 : Int32), ∀ (H : Heap) (locs : List Loc) (ls : Array Slot), va_P D vwCl (wMo k a S0) H → va_D A (wMo k a S0) → va_S A s.heap H locs → lv_has ls 6 [(0, .ref (a 0)), (1, .int x1), (2, .int x2), (3, .int x3), (4, .int x4)] → K37 S0 x3 x4 → W p l e rmX7_off s m ([.ref (a 0), .int x1, .int x2] : List Value).toArray below meth c H locs 0 0 (MQ below (va_Qi (fun (r : Int32) (u : St) => Q r u) (cB D k A (fun u : St => wMo k a u)) A) ([.ref (a 0), .int x1, .int x2] : List Value).toArray s 0 0 A) (F0 m 37 ls [])) → ∀ (S0 : St) (x3 : Int32) (x4 : Int32), ∀ (H : Heap) (locs : List Loc) (ls : Array Slot), va_P D vwCl (wMo k a S0) H → va_D A (wMo k a S0) → va_S A s.heap H locs → lv_has ls 6 [(0, .ref (a 0)), (1, .int x1), (2, .int x2), (3, .int x3), (4, .int x4)] → wp_X7_off_152 K37 x1 x2 Q S0 x3 x4 → W p l e rmX7_off s m ([.ref (a 0), .int x1, .int x2] : List Value).toArray below meth c H locs 0 0 (MQ below (va_Qi (fun (r : Int32) (u : St) => Q r u) (cB D k A (fun u : St => wMo k a u)) A) ([.ref (a 0), .int x1, .int x2] : List Value).toArray s 0 0 A) (F0 m 152 ls []) := by
    intro K37 hK37 S0 x3 x4 H locs ls hP hD hS hl h
    unfold wp_X7_off_152 at h
    refine lv_aload_n hx hb dX7_off_152 rfl (lv_at hl 0 rfl) ?_
    refine lv_aload_n hx hb dX7_off_153 rfl (lv_at hl 0 rfl) ?_
    refine va_get (D := D) (ci := 7) (v := .ref (a 15)) (C := RX7) (T := TX7) (N := 33) hx hb hts in_Mo hown hK hP 0 rfl rfl 23 (by decide) ln_52 (fun _ h9 => h9) rfl dX7_off_154 ?_
    refine lv_iload hx hb dX7_off_157 (lv_at hl 4 rfl) ?_
    refine va_iald hx hb hK hP 15 0 rfl rfl h.1 dX7_off_159 ?_
    have h := h.2
    refine lv_aload_n hx hb dX7_off_160 rfl (lv_at hl 0 rfl) ?_
    refine va_get (D := D) (ci := 7) (v := .ref (a 16)) (C := RX7) (T := TX7) (N := 33) hx hb hts in_Mo hown hK hP 0 rfl rfl 24 (by decide) ln_55 (fun _ h9 => h9) rfl dX7_off_161 ?_
    refine lv_iload hx hb dX7_off_164 (lv_at hl 4 rfl) ?_
    refine va_iald hx hb hK hP 16 0 rfl rfl h.1 dX7_off_166 ?_
    have h := h.2
    have hFc := fr_self hD hS hA
    refine gv_v (va_runV (As := [.int (S0.2 23 x4.toNatClampNeg), .int (S0.2 24 x4.toNatClampNeg)]) (rest := []) ⟨hx, hb, hml, hown, hts⟩ (c_X7_joins l D k a S0 H.size (S0.2 23 x4.toNatClampNeg) (S0.2 24 x4.toNatClampNeg) _ h) (cwV 2 hts gX7_off_X7_joins rfl rfl rfl (by decide +kernel) ⟨Nat.le_of_ble_eq_true rfl, Nat.le_of_ble_eq_true rfl⟩) (gv_preV hK hnw hP hD (ci := 7) rfl 0 rfl) rfl rfl hl.1 rfl (lv_room (Nat.le_of_ble_eq_true rfl)) dX7_off_167 ⟨Nat.zero_le _, Nat.zero_le _⟩) hS hFc (fun u_18 H locs h hP1 hD1 hk1 hS => ?_)
    have hP := hP1
    have hD := hD1.weaken (fun _ _ _ z => hFc _ z)
    refine lv_iinc (v := (x4 + 1)) (lv' := [(4, .int (x4 + 1)), (0, .ref (a 0)), (1, .int x1), (2, .int x2), (3, .int x3)]) hx hb dX7_off_170 hl (k := 4) rfl rfl (by decide) rfl (fun ls hl => ?_)
    refine lv_goto (tgt := 37) hx hb dX7_off_173 (by decide) ?_
    exact hK37 u_18 x3 (x4 + 1) H locs ls hP hD hS (lv_sub hl [1, 2, 3, 4, 0] rfl) h
  have L_128 : ∀ (K86 : St → Int32 → Int32 → Int32 → Prop), (∀ (S0 : St) (x3 : Int32) (x4 : Int32) (x5 : Int32), ∀ (H : Heap) (locs : List Loc) (ls : Array Slot), va_P D vwCl (wMo k a S0) H → va_D A (wMo k a S0) → va_S A s.heap H locs → lv_has ls 6 [(0, .ref (a 0)), (1, .int x1), (2, .int x2), (3, .int x3), (4, .int x4), (5, .int x5)] → K86 S0 x3 x4 x5 → W p l e rmX7_off s m ([.ref (a 0), .int x1, .int x2] : List Value).toArray below meth c H locs 0 0 (MQ below (va_Qi (fun (r : Int32) (u : St) => Q r u) (cB D k A (fun u : St => wMo k a u)) A) ([.ref (a 0), .int x1, .int x2] : List Value).toArray s 0 0 A) (F0 m 86 ls [])) → ∀ (K37 : St → Int32 → Int32 → Prop), (∀ (S0 : St) (x3 : Int32) (x4 : Int32), ∀ (H : Heap) (locs : List Loc) (ls : Array Slot), va_P D vwCl (wMo k a S0) H → va_D A (wMo k a S0) → va_S A s.heap H locs → lv_has ls 6 [(0, .ref (a 0)), (1, .int x1), (2, .int x2), (3, .int x3), (4, .int x4)] → K37 S0 x3 x4 → W p l e rmX7_off s m ([.ref (a 0), .int x1, .int x2] : List Value).toArray below meth c H locs 0 0 (MQ below (va_Qi (fun (r : Int32) (u : St) => Q r u) (cB D k A (fun u : St => wMo k a u)) A) ([.ref (a 0), .int x1, .int x2] : List Value).toArray s 0 0 A) (F0 m 37 ls [])) → ∀ (S0 : St) (x3 : Int32) (x4 : Int32) (x5 : Int32), ∀ (H : Heap) (locs : List Loc) (ls : Array Slot), va_P D vwCl (wMo k a S0) H → va_D A (wMo k a S0) → va_S A s.heap H locs → lv_has ls 6 [(0, .ref (a 0)), (1, .int x1), (2, .int x2), (3, .int x3), (4, .int x4), (5, .int x5)] → wp_X7_off_128 K86 K37 x1 x2 Q S0 x3 x4 x5 → W p l e rmX7_off s m ([.ref (a 0), .int x1, .int x2] : List Value).toArray below meth c H locs 0 0 (MQ below (va_Qi (fun (r : Int32) (u : St) => Q r u) (cB D k A (fun u : St => wMo k a u)) A) ([.ref (a 0), .int x1, .int x2] : List Value).toArray s 0 0 A) (F0 m 128 ls []) := by
    intro K86 hK86 K37 hK37 S0 x3 x4 x5 H locs ls hP hD hS hl h
    unfold wp_X7_off_128 at h
    refine lv_aload_n hx hb dX7_off_128 rfl (lv_at hl 0 rfl) ?_
    refine lv_aload_n hx hb dX7_off_129 rfl (lv_at hl 0 rfl) ?_
    refine va_get (D := D) (ci := 7) (v := .ref (a 15)) (C := RX7) (T := TX7) (N := 33) hx hb hts in_Mo hown hK hP 0 rfl rfl 23 (by decide) ln_52 (fun _ h9 => h9) rfl dX7_off_130 ?_
    refine lv_iload hx hb dX7_off_133 (lv_at hl 5 rfl) ?_
    refine va_iald hx hb hK hP 15 0 rfl rfl h.1 dX7_off_135 ?_
    have h := h.2
    refine lv_aload_n hx hb dX7_off_136 rfl (lv_at hl 0 rfl) ?_
    refine va_get (D := D) (ci := 7) (v := .ref (a 16)) (C := RX7) (T := TX7) (N := 33) hx hb hts in_Mo hown hK hP 0 rfl rfl 24 (by decide) ln_55 (fun _ h9 => h9) rfl dX7_off_137 ?_
    refine lv_iload hx hb dX7_off_140 (lv_at hl 5 rfl) ?_
    refine va_iald hx hb hK hP 16 0 rfl rfl h.1 dX7_off_142 ?_
    have h := h.2
    have hFc := fr_self hD hS hA
    refine gv_v (va_runV (As := [.int (S0.2 23 x5.toNatClampNeg), .int (S0.2 24 x5.toNatClampNeg)]) (rest := []) ⟨hx, hb, hml, hown, hts⟩ (c_X7_joins l D k a S0 H.size (S0.2 23 x5.toNatClampNeg) (S0.2 24 x5.toNatClampNeg) _ h) (cwV 2 hts gX7_off_X7_joins rfl rfl rfl (by decide +kernel) ⟨Nat.le_of_ble_eq_true rfl, Nat.le_of_ble_eq_true rfl⟩) (gv_preV hK hnw hP hD (ci := 7) rfl 0 rfl) rfl rfl hl.1 rfl (lv_room (Nat.le_of_ble_eq_true rfl)) dX7_off_143 ⟨Nat.zero_le _, Nat.zero_le _⟩) hS hFc (fun u_26 H locs h hP1 hD1 hk1 hS => ?_)
    have hP := hP1
    have hD := hD1.weaken (fun _ _ _ z => hFc _ z)
    refine lv_iinc (v := (x5 + 1)) (lv' := [(5, .int (x5 + 1)), (0, .ref (a 0)), (1, .int x1), (2, .int x2), (3, .int x3), (4, .int x4)]) hx hb dX7_off_146 hl (k := 5) rfl rfl (by decide) rfl (fun ls hl => ?_)
    refine lv_goto (tgt := 86) hx hb dX7_off_149 (by decide) ?_
    exact hK86 u_26 x3 x4 (x5 + 1) H locs ls hP hD hS (lv_sub hl [1, 2, 3, 4, 5, 0] rfl) h
  have L_86 : ∀ (K37 : St → Int32 → Int32 → Prop), (∀ (S0 : St) (x3 : Int32) (x4 : Int32), ∀ (H : Heap) (locs : List Loc) (ls : Array Slot), va_P D vwCl (wMo k a S0) H → va_D A (wMo k a S0) → va_S A s.heap H locs → lv_has ls 6 [(0, .ref (a 0)), (1, .int x1), (2, .int x2), (3, .int x3), (4, .int x4)] → K37 S0 x3 x4 → W p l e rmX7_off s m ([.ref (a 0), .int x1, .int x2] : List Value).toArray below meth c H locs 0 0 (MQ below (va_Qi (fun (r : Int32) (u : St) => Q r u) (cB D k A (fun u : St => wMo k a u)) A) ([.ref (a 0), .int x1, .int x2] : List Value).toArray s 0 0 A) (F0 m 37 ls [])) → ∀ (n : Nat), ∀ (S0 : St) (x3 : Int32) (x4 : Int32) (x5 : Int32), ∀ (H : Heap) (locs : List Loc) (ls : Array Slot), va_P D vwCl (wMo k a S0) H → va_D A (wMo k a S0) → va_S A s.heap H locs → lv_has ls 6 [(0, .ref (a 0)), (1, .int x1), (2, .int x2), (3, .int x3), (4, .int x4), (5, .int x5)] → wp_X7_off_86 K37 x1 x2 Q n S0 x3 x4 x5 → W p l e rmX7_off s m ([.ref (a 0), .int x1, .int x2] : List Value).toArray below meth c H locs 0 0 (MQ below (va_Qi (fun (r : Int32) (u : St) => Q r u) (cB D k A (fun u : St => wMo k a u)) A) ([.ref (a 0), .int x1, .int x2] : List Value).toArray s 0 0 A) (F0 m 86 ls []) := by
    intro K37 hK37
    intro n
    induction n with
    | zero => intro S0 x3 x4 x5 H locs ls hP hD hS hl h; exact absurd h (by unfold wp_X7_off_86; exact id)
    | succ n ih =>
      intro S0 x3 x4 x5 H locs ls hP hD hS hl h
      unfold wp_X7_off_86 at h
      refine lv_iload hx hb dX7_off_86 (lv_at hl 5 rfl) ?_
      refine lv_aload_n hx hb dX7_off_88 rfl (lv_at hl 0 rfl) ?_
      refine va_get (D := D) (ci := 7) (v := .int (S0.1 25)) (C := RX7) (T := TX7) (N := 33) hx hb hts in_Mo hown hK hP 0 rfl rfl 25 (by decide) ln_199 (fun _ h9 => h9) rfl dX7_off_89 ?_
      refine lv_icmp_ge (tgt := 152) hx hb dX7_off_92 (by decide) (fun c_16 => ?_) (fun c_16 => ?_)
      · have h := h.1 c_16
        exact L_152 K37 hK37 S0 x3 x4 H locs ls hP hD hS (lv_sub hl [0, 1, 2, 3, 4] rfl) h
      · have h := h.2 c_16
        refine lv_iload_n hx hb dX7_off_95 rfl (lv_at hl 3 rfl) ?_
        refine lv_if_ge (tgt := 152) hx hb dX7_off_96 (by decide) (fun c_19 => ?_) (fun c_19 => ?_)
        · have h := h.1 c_19
          exact L_152 K37 hK37 S0 x3 x4 H locs ls hP hD hS (lv_sub hl [0, 1, 2, 3, 4] rfl) h
        · have h := h.2 c_19
          refine lv_aload_n hx hb dX7_off_99 rfl (lv_at hl 0 rfl) ?_
          refine lv_aload_n hx hb dX7_off_100 rfl (lv_at hl 0 rfl) ?_
          refine va_get (D := D) (ci := 7) (v := .ref (a 15)) (C := RX7) (T := TX7) (N := 33) hx hb hts in_Mo hown hK hP 0 rfl rfl 23 (by decide) ln_52 (fun _ h9 => h9) rfl dX7_off_101 ?_
          refine lv_iload hx hb dX7_off_104 (lv_at hl 5 rfl) ?_
          refine va_iald hx hb hK hP 15 0 rfl rfl h.1 dX7_off_106 ?_
          have h := h.2
          refine lv_aload_n hx hb dX7_off_107 rfl (lv_at hl 0 rfl) ?_
          refine va_get (D := D) (ci := 7) (v := .ref (a 16)) (C := RX7) (T := TX7) (N := 33) hx hb hts in_Mo hown hK hP 0 rfl rfl 24 (by decide) ln_55 (fun _ h9 => h9) rfl dX7_off_108 ?_
          refine lv_iload hx hb dX7_off_111 (lv_at hl 5 rfl) ?_
          refine va_iald hx hb hK hP 16 0 rfl rfl h.1 dX7_off_113 ?_
          have h := h.2
          have hFc := fr_self hD hS hA
          refine gv_v (va_runV (As := [.int (S0.2 23 x5.toNatClampNeg), .int (S0.2 24 x5.toNatClampNeg)]) (rest := []) ⟨hx, hb, hml, hown, hts⟩ (c_X7_parts l D k a S0 H.size (S0.2 23 x5.toNatClampNeg) (S0.2 24 x5.toNatClampNeg) _ h) (cwV 2 hts gX7_off_X7_parts rfl rfl rfl (by decide +kernel) ⟨Nat.le_of_ble_eq_true rfl, Nat.le_of_ble_eq_true rfl⟩) (gv_preV hK hnw hP hD (ci := 7) rfl 0 rfl) rfl rfl hl.1 rfl (lv_room (Nat.le_of_ble_eq_true rfl)) dX7_off_114 ⟨Nat.zero_le _, Nat.zero_le _⟩) hS hFc (fun u_21 H locs h hP1 hD1 hk1 hS => ?_)
          have hP := hP1
          have hD := hD1.weaken (fun _ _ _ z => hFc _ z)
          refine lv_aload_n hx hb dX7_off_117 rfl (lv_at hl 0 rfl) ?_
          refine lv_iload_n hx hb dX7_off_118 rfl (lv_at hl 1 rfl) ?_
          refine lv_iload_n hx hb dX7_off_119 rfl (lv_at hl 2 rfl) ?_
          have hFc := fr_self hD hS hA
          refine gv_i (va_runV (As := [.int x1, .int x2]) (rest := []) ⟨hx, hb, hml, hown, hts⟩ (c_X7_isNever l D k a u_21 H.size x1 x2 _ h) (cwV 2 hts gX7_off_X7_isNever rfl rfl rfl (by decide +kernel) ⟨Nat.le_of_ble_eq_true rfl, Nat.le_of_ble_eq_true rfl⟩) (gv_preV hK hnw hP hD (ci := 7) rfl 0 rfl) rfl rfl hl.1 rfl (lv_room (Nat.le_of_ble_eq_true rfl)) dX7_off_120 ⟨Nat.zero_le _, Nat.zero_le _⟩) hS hFc (fun r_22 u_23 H locs h hP1 hD1 hk1 hS => ?_)
          have hP := hP1
          have hD := hD1.weaken (fun _ _ _ z => hFc _ z)
          refine lv_if_eq (tgt := 128) hx hb dX7_off_123 (by decide) (fun c_24 => ?_) (fun c_24 => ?_)
          · have h := h.1 c_24
            exact L_128 (fun s0 v0 v1 v2 => wp_X7_off_86 K37 x1 x2 Q n s0 v0 v1 v2) ih K37 hK37 u_23 x3 x4 x5 H locs ls hP hD hS (lv_sub hl [0, 1, 2, 3, 4, 5] rfl) h
          · have h := h.2 c_24
            refine lv_iconst (v := (2 : Int32)) hx hb dX7_off_126 (by decide) ?_
            refine lv_istore_n (lv' := [(3, .int (2 : Int32)), (0, .ref (a 0)), (1, .int x1), (2, .int x2), (4, .int x4), (5, .int x5)]) hx hb dX7_off_127 rfl hl (by decide) rfl (fun ls hl => ?_)
            exact L_128 (fun s0 v0 v1 v2 => wp_X7_off_86 K37 x1 x2 Q n s0 v0 v1 v2) ih K37 hK37 u_23 (2 : Int32) x4 x5 H locs ls hP hD hS (lv_sub hl [1, 2, 3, 0, 4, 5] rfl) h
  have L_37 : ∀ (n : Nat), ∀ (S0 : St) (x3 : Int32) (x4 : Int32), ∀ (H : Heap) (locs : List Loc) (ls : Array Slot), va_P D vwCl (wMo k a S0) H → va_D A (wMo k a S0) → va_S A s.heap H locs → lv_has ls 6 [(0, .ref (a 0)), (1, .int x1), (2, .int x2), (3, .int x3), (4, .int x4)] → wp_X7_off_37 x1 x2 Q n S0 x3 x4 → W p l e rmX7_off s m ([.ref (a 0), .int x1, .int x2] : List Value).toArray below meth c H locs 0 0 (MQ below (va_Qi (fun (r : Int32) (u : St) => Q r u) (cB D k A (fun u : St => wMo k a u)) A) ([.ref (a 0), .int x1, .int x2] : List Value).toArray s 0 0 A) (F0 m 37 ls []) := by
    intro n
    induction n with
    | zero => intro S0 x3 x4 H locs ls hP hD hS hl h; exact absurd h (by unfold wp_X7_off_37; exact id)
    | succ n ih =>
      intro S0 x3 x4 H locs ls hP hD hS hl h
      unfold wp_X7_off_37 at h
      refine lv_iload hx hb dX7_off_37 (lv_at hl 4 rfl) ?_
      refine lv_aload_n hx hb dX7_off_39 rfl (lv_at hl 0 rfl) ?_
      refine va_get (D := D) (ci := 7) (v := .int (S0.1 25)) (C := RX7) (T := TX7) (N := 33) hx hb hts in_Mo hown hK hP 0 rfl rfl 25 (by decide) ln_199 (fun _ h9 => h9) rfl dX7_off_40 ?_
      refine lv_icmp_ge (tgt := 176) hx hb dX7_off_43 (by decide) (fun c_9 => ?_) (fun c_9 => ?_)
      · have h := h.1 c_9
        refine lv_iload_n hx hb dX7_off_176 rfl (lv_at hl 3 rfl) ?_
        exact W.iret (v := x3) hx hb hr (fun t ht hW => ⟨⟨x3, S0, rfl, h, by rw [ht]; exact hP, va_K.moved hW.alike hK, hD⟩, hS.F ht⟩) hS.2.2 dX7_off_177
      · have h := h.2 c_9
        refine lv_iload_n hx hb dX7_off_46 rfl (lv_at hl 3 rfl) ?_
        refine lv_iconst (v := (1 : Int32)) hx hb dX7_off_47 (by decide) ?_
        refine lv_icmp_eq (tgt := 176) hx hb dX7_off_48 (by decide) (fun c_10 => ?_) (fun c_10 => ?_)
        · have h := h.1 c_10
          refine lv_iload_n hx hb dX7_off_176 rfl (lv_at hl 3 rfl) ?_
          exact W.iret (v := x3) hx hb hr (fun t ht hW => ⟨⟨x3, S0, rfl, h, by rw [ht]; exact hP, va_K.moved hW.alike hK, hD⟩, hS.F ht⟩) hS.2.2 dX7_off_177
        · have h := h.2 c_10
          refine lv_aload_n hx hb dX7_off_51 rfl (lv_at hl 0 rfl) ?_
          refine lv_aload_n hx hb dX7_off_52 rfl (lv_at hl 0 rfl) ?_
          refine va_get (D := D) (ci := 7) (v := .ref (a 15)) (C := RX7) (T := TX7) (N := 33) hx hb hts in_Mo hown hK hP 0 rfl rfl 23 (by decide) ln_52 (fun _ h9 => h9) rfl dX7_off_53 ?_
          refine lv_iload hx hb dX7_off_56 (lv_at hl 4 rfl) ?_
          refine va_iald hx hb hK hP 15 0 rfl rfl h.1 dX7_off_58 ?_
          have h := h.2
          refine lv_aload_n hx hb dX7_off_59 rfl (lv_at hl 0 rfl) ?_
          refine va_get (D := D) (ci := 7) (v := .ref (a 16)) (C := RX7) (T := TX7) (N := 33) hx hb hts in_Mo hown hK hP 0 rfl rfl 24 (by decide) ln_55 (fun _ h9 => h9) rfl dX7_off_60 ?_
          refine lv_iload hx hb dX7_off_63 (lv_at hl 4 rfl) ?_
          refine va_iald hx hb hK hP 16 0 rfl rfl h.1 dX7_off_65 ?_
          have h := h.2
          have hFc := fr_self hD hS hA
          refine gv_v (va_runV (As := [.int (S0.2 23 x4.toNatClampNeg), .int (S0.2 24 x4.toNatClampNeg)]) (rest := []) ⟨hx, hb, hml, hown, hts⟩ (c_X7_parts l D k a S0 H.size (S0.2 23 x4.toNatClampNeg) (S0.2 24 x4.toNatClampNeg) _ h) (cwV 2 hts gX7_off_X7_parts rfl rfl rfl (by decide +kernel) ⟨Nat.le_of_ble_eq_true rfl, Nat.le_of_ble_eq_true rfl⟩) (gv_preV hK hnw hP hD (ci := 7) rfl 0 rfl) rfl rfl hl.1 rfl (lv_room (Nat.le_of_ble_eq_true rfl)) dX7_off_66 ⟨Nat.zero_le _, Nat.zero_le _⟩) hS hFc (fun u_12 H locs h hP1 hD1 hk1 hS => ?_)
          have hP := hP1
          have hD := hD1.weaken (fun _ _ _ z => hFc _ z)
          refine lv_aload_n hx hb dX7_off_69 rfl (lv_at hl 0 rfl) ?_
          refine lv_iload_n hx hb dX7_off_70 rfl (lv_at hl 1 rfl) ?_
          refine lv_iload_n hx hb dX7_off_71 rfl (lv_at hl 2 rfl) ?_
          have hFc := fr_self hD hS hA
          refine gv_i (va_runV (As := [.int x1, .int x2]) (rest := []) ⟨hx, hb, hml, hown, hts⟩ (c_X7_isNever l D k a u_12 H.size x1 x2 _ h) (cwV 2 hts gX7_off_X7_isNever rfl rfl rfl (by decide +kernel) ⟨Nat.le_of_ble_eq_true rfl, Nat.le_of_ble_eq_true rfl⟩) (gv_preV hK hnw hP hD (ci := 7) rfl 0 rfl) rfl rfl hl.1 rfl (lv_room (Nat.le_of_ble_eq_true rfl)) dX7_off_72 ⟨Nat.zero_le _, Nat.zero_le _⟩) hS hFc (fun r_13 u_14 H locs h hP1 hD1 hk1 hS => ?_)
          have hP := hP1
          have hD := hD1.weaken (fun _ _ _ z => hFc _ z)
          refine lv_if_eq (tgt := 80) hx hb dX7_off_75 (by decide) (fun c_15 => ?_) (fun c_15 => ?_)
          · have h := h.1 c_15
            refine lv_iload hx hb dX7_off_80 (lv_at hl 4 rfl) ?_
            refine lv_iconst (v := (1 : Int32)) hx hb dX7_off_82 (by decide) ?_
            refine lv_iadd hx hb dX7_off_83 ?_
            refine lv_istore (lv' := [(5, .int (x4 + (1 : Int32))), (0, .ref (a 0)), (1, .int x1), (2, .int x2), (3, .int x3), (4, .int x4)]) hx hb dX7_off_84 hl (by decide) rfl (fun ls hl => ?_)
            obtain ⟨n_27, h⟩ := h
            exact L_86 (fun s0 v0 v1 => wp_X7_off_37 x1 x2 Q n s0 v0 v1) ih n_27 u_14 x3 x4 (x4 + (1 : Int32)) H locs ls hP hD hS (lv_sub hl [1, 2, 3, 4, 5, 0] rfl) h
          · have h := h.2 c_15
            refine lv_iconst (v := (1 : Int32)) hx hb dX7_off_78 (by decide) ?_
            refine lv_istore_n (lv' := [(3, .int (1 : Int32)), (0, .ref (a 0)), (1, .int x1), (2, .int x2), (4, .int x4)]) hx hb dX7_off_79 rfl hl (by decide) rfl (fun ls hl => ?_)
            refine lv_iload hx hb dX7_off_80 (lv_at hl 4 rfl) ?_
            refine lv_iconst (v := (1 : Int32)) hx hb dX7_off_82 (by decide) ?_
            refine lv_iadd hx hb dX7_off_83 ?_
            refine lv_istore (lv' := [(5, .int (x4 + (1 : Int32))), (3, .int (1 : Int32)), (0, .ref (a 0)), (1, .int x1), (2, .int x2), (4, .int x4)]) hx hb dX7_off_84 hl (by decide) rfl (fun ls hl => ?_)
            obtain ⟨n_28, h⟩ := h
            exact L_86 (fun s0 v0 v1 => wp_X7_off_37 x1 x2 Q n s0 v0 v1) ih n_28 u_14 (1 : Int32) x4 (x4 + (1 : Int32)) H locs ls hP hD hS (lv_sub hl [2, 3, 4, 1, 5, 0] rfl) h
  unfold wp_X7_off at h
  refine lv_aload_n hx hb dX7_off_0 rfl (lv_at hl 0 rfl) ?_
  refine lv_iload_n hx hb dX7_off_1 rfl (lv_at hl 1 rfl) ?_
  refine lv_iload_n hx hb dX7_off_2 rfl (lv_at hl 2 rfl) ?_
  have hFc := fr_self hD hS hA
  refine gv_i (va_runV (As := [.int x1, .int x2]) (rest := []) ⟨hx, hb, hml, hown, hts⟩ (c_X7_areTwo l D k a S0 H.size x1 x2 _ h) (cwV 2 hts gX7_off_X7_areTwo rfl rfl rfl (by decide +kernel) ⟨Nat.le_of_ble_eq_true rfl, Nat.le_of_ble_eq_true rfl⟩) (gv_preV hK hnw hP hD (ci := 7) rfl 0 rfl) rfl rfl hl.1 rfl (lv_room (Nat.le_of_ble_eq_true rfl)) dX7_off_3 ⟨Nat.zero_le _, Nat.zero_le _⟩) hS hFc (fun r_1 u_2 H locs h hP1 hD1 hk1 hS => ?_)
  have hP := hP1
  have hD := hD1.weaken (fun _ _ _ z => hFc _ z)
  refine lv_if_ne (tgt := 15) hx hb dX7_off_6 (by decide) (fun c_3 => ?_) (fun c_3 => ?_)
  · have h := h.1 c_3
    refine lv_aload_n hx hb dX7_off_15 rfl (lv_at hl 0 rfl) ?_
    refine lv_iload_n hx hb dX7_off_16 rfl (lv_at hl 1 rfl) ?_
    refine lv_iload_n hx hb dX7_off_17 rfl (lv_at hl 2 rfl) ?_
    have hFc := fr_self hD hS hA
    refine gv_i (va_runV (As := [.int x1, .int x2]) (rest := []) ⟨hx, hb, hml, hown, hts⟩ (c_X7_isNever l D k a u_2 H.size x1 x2 _ h) (cwV 2 hts gX7_off_X7_isNever rfl rfl rfl (by decide +kernel) ⟨Nat.le_of_ble_eq_true rfl, Nat.le_of_ble_eq_true rfl⟩) (gv_preV hK hnw hP hD (ci := 7) rfl 0 rfl) rfl rfl hl.1 rfl (lv_room (Nat.le_of_ble_eq_true rfl)) dX7_off_18 ⟨Nat.zero_le _, Nat.zero_le _⟩) hS hFc (fun r_4 u_5 H locs h hP1 hD1 hk1 hS => ?_)
    have hP := hP1
    have hD := hD1.weaken (fun _ _ _ z => hFc _ z)
    refine lv_if_eq (tgt := 26) hx hb dX7_off_21 (by decide) (fun c_6 => ?_) (fun c_6 => ?_)
    · have h := h.1 c_6
      refine lv_aload_n hx hb dX7_off_26 rfl (lv_at hl 0 rfl) ?_
      refine lv_iconst (v := (1 : Int32)) hx hb dX7_off_27 (by decide) ?_
      have hFc := fr_self hD hS hA
      refine gv_v (va_runV (As := [.int (1 : Int32)]) (rest := []) ⟨hx, hb, hml, hown, hts⟩ (c_X7_findPairs l D k a u_5 H.size (1 : Int32) _ h) (cwV 1 hts gX7_off_X7_findPairs rfl rfl rfl (by decide +kernel) ⟨Nat.le_of_ble_eq_true rfl, Nat.le_of_ble_eq_true rfl⟩) (gv_preV hK hnw hP hD (ci := 7) rfl 0 rfl) rfl rfl hl.1 rfl (lv_room (Nat.le_of_ble_eq_true rfl)) dX7_off_28 ⟨Nat.zero_le _, Nat.zero_le _⟩) hS hFc (fun u_8 H locs h hP1 hD1 hk1 hS => ?_)
      have hP := hP1
      have hD := hD1.weaken (fun _ _ _ z => hFc _ z)
      refine lv_bipush (v := (-9 : Int32)) hx hb dX7_off_31 (by decide) ?_
      refine lv_istore_n (lv' := [(3, .int (-9 : Int32)), (0, .ref (a 0)), (1, .int x1), (2, .int x2)]) hx hb dX7_off_33 rfl hl (by decide) rfl (fun ls hl => ?_)
      refine lv_iconst (v := (0 : Int32)) hx hb dX7_off_34 (by decide) ?_
      refine lv_istore (lv' := [(4, .int (0 : Int32)), (3, .int (-9 : Int32)), (0, .ref (a 0)), (1, .int x1), (2, .int x2)]) hx hb dX7_off_35 hl (by decide) rfl (fun ls hl => ?_)
      obtain ⟨n_29, h⟩ := h
      exact L_37 n_29 u_8 (-9 : Int32) (0 : Int32) H locs ls hP hD hS (lv_sub hl [2, 3, 4, 1, 0] rfl) h
    · have h := h.2 c_6
      refine lv_iconst (v := (0 : Int32)) hx hb dX7_off_24 (by decide) ?_
      exact W.iret (v := (0 : Int32)) hx hb hr (fun t ht hW => ⟨⟨(0 : Int32), u_5, rfl, h, by rw [ht]; exact hP, va_K.moved hW.alike hK, hD⟩, hS.F ht⟩) hS.2.2 dX7_off_25
  · have h := h.2 c_3
    refine lv_aload_n hx hb dX7_off_9 rfl (lv_at hl 0 rfl) ?_
    refine lv_iconst (v := (-1 : Int32)) hx hb dX7_off_10 (by decide) ?_
    have hFc := fr_self hD hS hA
    refine gv_i (va_runV (As := [.int (-1 : Int32)]) (rest := []) ⟨hx, hb, hml, hown, hts⟩ (c_X7_no l D k a u_2 H.size (-1 : Int32) _ h) (cwV 1 hts gX7_off_X7_no rfl rfl rfl (by decide +kernel) ⟨Nat.le_of_ble_eq_true rfl, Nat.le_of_ble_eq_true rfl⟩) (gv_preV hK hnw hP hD (ci := 7) rfl 0 rfl) rfl rfl hl.1 rfl (lv_room (Nat.le_of_ble_eq_true rfl)) dX7_off_11 ⟨Nat.zero_le _, Nat.zero_le _⟩) hS hFc (fun r_30 u_31 H locs h hP1 hD1 hk1 hS => ?_)
    have hP := hP1
    have hD := hD1.weaken (fun _ _ _ z => hFc _ z)
    exact W.iret (v := r_30) hx hb hr (fun t ht hW => ⟨⟨r_30, u_31, rfl, h, by rw [ht]; exact hP, va_K.moved hW.alike hK, hD⟩, hS.F ht⟩) hS.2.2 dX7_off_14
/-! X7_worth -/
def wp_X7_worth (S0 : St) (x1 : Int32) (Q : Int32 → St → Prop) : Prop := wp_X7_isDancer S0 x1 (fun r_1 u_2 => ((¬ r_1 = 0) → (wp_X7_closes u_2 (u_2.1 6) (-9 : Int32) (fun r_4 u_5 => wp_X7_closes u_5 (u_5.1 6) x1 (fun r_6 u_7 => Q (r_4 - r_6) u_7)))) ∧ ((r_1 = 0) → (wp_X7_no u_2 (-1 : Int32) (fun r_8 u_9 => Q r_8 u_9))))
abbrev rmX7_worth : Room := { frames := 4, cells := 0, slots := 0, locals := 96 }
set_option maxRecDepth 100000 in
set_option maxHeartbeats 4000000 in
theorem c_X7_worth (l : Launch) (D : va_G) (k : Nat → ClassId) (a : Nat → Nat) (S0 : St) (sz : Nat) (x1 : Int32) (Q : Int32 → St → Prop) (h : wp_X7_worth S0 x1 Q) : Met l yX7_worth wsX7_worth rmX7_worth (cPc D k (wMo k a S0) [.ref (a 0), .int x1] sz) (va_Qi (fun (r : Int32) (u : St) => Q r u) (cB D k (va_A (wMo k a S0) sz) (fun u : St => wMo k a u)) (va_A (wMo k a S0) sz)) 0 0 (va_A (wMo k a S0) sz) := by
  refine ct_entry (cc := cX7_worth) (maxL := 3) (ret := (some .int)) (Rn := RX7) (Qc := fun A => (va_Qi (fun (r : Int32) (u : St) => Q r u) (cB D k A (fun u : St => wMo k a u)) A)) (by decide) rfl rfl (Nat.le_of_ble_eq_true rfl) ?_
  intro p e s m below meth c hx hb hr hlocks hml hts hown hnw hK A hA H locs hP hD hS ls hl
  have hl : lv_has ls 3 [(0, .ref (a 0)), (1, .int x1)] := hl
  have ln_109 := hts (.fieldLink RX7 109 "WithTheSameOneModel" "law" "I") (by decide +kernel)
  have in_Mo : ∀ w ∈ wsX70, w ∈ wsX7_worth := fun _ h => List.mem_cons_of_mem _ (List.mem_append_right _ h)
  unfold wp_X7_worth at h
  refine lv_aload_n hx hb dX7_worth_0 rfl (lv_at hl 0 rfl) ?_
  refine lv_iload_n hx hb dX7_worth_1 rfl (lv_at hl 1 rfl) ?_
  have hFc := fr_self hD hS hA
  refine gv_i (va_runV (As := [.int x1]) (rest := []) ⟨hx, hb, hml, hown, hts⟩ (c_X7_isDancer l D k a S0 H.size x1 _ h) (cwV 1 hts gX7_worth_X7_isDancer rfl rfl rfl (by decide +kernel) ⟨Nat.le_of_ble_eq_true rfl, Nat.le_of_ble_eq_true rfl⟩) (gv_preV hK hnw hP hD (ci := 7) rfl 0 rfl) rfl rfl hl.1 rfl (lv_room (Nat.le_of_ble_eq_true rfl)) dX7_worth_2 ⟨Nat.zero_le _, Nat.zero_le _⟩) hS hFc (fun r_1 u_2 H locs h hP1 hD1 hk1 hS => ?_)
  have hP := hP1
  have hD := hD1.weaken (fun _ _ _ z => hFc _ z)
  refine lv_if_ne (tgt := 14) hx hb dX7_worth_5 (by decide) (fun c_3 => ?_) (fun c_3 => ?_)
  · have h := h.1 c_3
    refine lv_aload_n hx hb dX7_worth_14 rfl (lv_at hl 0 rfl) ?_
    refine lv_aload_n hx hb dX7_worth_15 rfl (lv_at hl 0 rfl) ?_
    refine va_get (D := D) (ci := 7) (v := .int (u_2.1 6)) (C := RX7) (T := TX7) (N := 33) hx hb hts in_Mo hown hK hP 0 rfl rfl 6 (by decide) ln_109 (fun _ h9 => h9) rfl dX7_worth_16 ?_
    refine lv_bipush (v := (-9 : Int32)) hx hb dX7_worth_19 (by decide) ?_
    have hFc := fr_self hD hS hA
    refine gv_i (va_runV (As := [.int (u_2.1 6), .int (-9 : Int32)]) (rest := []) ⟨hx, hb, hml, hown, hts⟩ (c_X7_closes l D k a u_2 H.size (u_2.1 6) (-9 : Int32) _ h) (cwV 2 hts gX7_worth_X7_closes rfl rfl rfl (by decide +kernel) ⟨Nat.le_of_ble_eq_true rfl, Nat.le_of_ble_eq_true rfl⟩) (gv_preV hK hnw hP hD (ci := 7) rfl 0 rfl) rfl rfl hl.1 rfl (lv_room (Nat.le_of_ble_eq_true rfl)) dX7_worth_21 ⟨Nat.zero_le _, Nat.zero_le _⟩) hS hFc (fun r_4 u_5 H locs h hP1 hD1 hk1 hS => ?_)
    have hP := hP1
    have hD := hD1.weaken (fun _ _ _ z => hFc _ z)
    refine lv_istore_n (lv' := [(2, .int r_4), (0, .ref (a 0)), (1, .int x1)]) hx hb dX7_worth_24 rfl hl (by decide) rfl (fun ls hl => ?_)
    refine lv_iload_n hx hb dX7_worth_25 rfl (lv_at hl 0 rfl) ?_
    refine lv_aload_n hx hb dX7_worth_26 rfl (lv_at hl 1 rfl) ?_
    refine lv_aload_n hx hb dX7_worth_27 rfl (lv_at hl 1 rfl) ?_
    refine va_get (D := D) (ci := 7) (v := .int (u_5.1 6)) (C := RX7) (T := TX7) (N := 33) hx hb hts in_Mo hown hK hP 0 rfl rfl 6 (by decide) ln_109 (fun _ h9 => h9) rfl dX7_worth_28 ?_
    refine lv_iload_n hx hb dX7_worth_31 rfl (lv_at hl 2 rfl) ?_
    have hFc := fr_self hD hS hA
    refine gv_i (va_runV (As := [.int (u_5.1 6), .int x1]) (rest := [.int r_4]) ⟨hx, hb, hml, hown, hts⟩ (c_X7_closes l D k a u_5 H.size (u_5.1 6) x1 _ h) (cwV 2 hts gX7_worth_X7_closes rfl rfl rfl (by decide +kernel) ⟨Nat.le_of_ble_eq_true rfl, Nat.le_of_ble_eq_true rfl⟩) (gv_preV hK hnw hP hD (ci := 7) rfl 0 rfl) rfl rfl hl.1 rfl (lv_room (Nat.le_of_ble_eq_true rfl)) dX7_worth_32 ⟨Nat.zero_le _, Nat.zero_le _⟩) hS hFc (fun r_6 u_7 H locs h hP1 hD1 hk1 hS => ?_)
    have hP := hP1
    have hD := hD1.weaken (fun _ _ _ z => hFc _ z)
    refine lv_isub hx hb dX7_worth_35 ?_
    exact W.iret (v := (r_4 - r_6)) hx hb hr (fun t ht hW => ⟨⟨(r_4 - r_6), u_7, rfl, h, by rw [ht]; exact hP, va_K.moved hW.alike hK, hD⟩, hS.F ht⟩) hS.2.2 dX7_worth_36
  · have h := h.2 c_3
    refine lv_aload_n hx hb dX7_worth_8 rfl (lv_at hl 0 rfl) ?_
    refine lv_iconst (v := (-1 : Int32)) hx hb dX7_worth_9 (by decide) ?_
    have hFc := fr_self hD hS hA
    refine gv_i (va_runV (As := [.int (-1 : Int32)]) (rest := []) ⟨hx, hb, hml, hown, hts⟩ (c_X7_no l D k a u_2 H.size (-1 : Int32) _ h) (cwV 1 hts gX7_worth_X7_no rfl rfl rfl (by decide +kernel) ⟨Nat.le_of_ble_eq_true rfl, Nat.le_of_ble_eq_true rfl⟩) (gv_preV hK hnw hP hD (ci := 7) rfl 0 rfl) rfl rfl hl.1 rfl (lv_room (Nat.le_of_ble_eq_true rfl)) dX7_worth_10 ⟨Nat.zero_le _, Nat.zero_le _⟩) hS hFc (fun r_8 u_9 H locs h hP1 hD1 hk1 hS => ?_)
    have hP := hP1
    have hD := hD1.weaken (fun _ _ _ z => hFc _ z)
    exact W.iret (v := r_8) hx hb hr (fun t ht hW => ⟨⟨r_8, u_9, rfl, h, by rw [ht]; exact hP, va_K.moved hW.alike hK, hD⟩, hS.F ht⟩) hS.2.2 dX7_worth_13
/-! X7_byLaw -/
def wp_X7_byLaw (S0 : St) (x1 : Int32) (Q : Int32 → St → Prop) : Prop := wp_X7_isIn x1 (0 : Int32) (2 : Int32) (fun r_1 => ((r_1 = 0) → (wp_X7_no S0 (-2 : Int32) (fun r_3 u_4 => Q r_3 u_4))) ∧ ((¬ r_1 = 0) → (wp_X7_closes S0 x1 (-9 : Int32) (fun r_5 u_6 => Q r_5 u_6))))
abbrev rmX7_byLaw : Room := { frames := 4, cells := 0, slots := 0, locals := 96 }
set_option maxRecDepth 100000 in
set_option maxHeartbeats 4000000 in
theorem c_X7_byLaw (l : Launch) (D : va_G) (k : Nat → ClassId) (a : Nat → Nat) (S0 : St) (sz : Nat) (x1 : Int32) (Q : Int32 → St → Prop) (h : wp_X7_byLaw S0 x1 Q) : Met l yX7_byLaw wsX7_byLaw rmX7_byLaw (cPc D k (wMo k a S0) [.ref (a 0), .int x1] sz) (va_Qi (fun (r : Int32) (u : St) => Q r u) (cB D k (va_A (wMo k a S0) sz) (fun u : St => wMo k a u)) (va_A (wMo k a S0) sz)) 0 0 (va_A (wMo k a S0) sz) := by
  refine ct_entry (cc := cX7_byLaw) (maxL := 2) (ret := (some .int)) (Rn := RX7) (Qc := fun A => (va_Qi (fun (r : Int32) (u : St) => Q r u) (cB D k A (fun u : St => wMo k a u)) A)) (by decide) rfl rfl (Nat.le_of_ble_eq_true rfl) ?_
  intro p e s m below meth c hx hb hr hlocks hml hts hown hnw hK A hA H locs hP hD hS ls hl
  have hl : lv_has ls 2 [(0, .ref (a 0)), (1, .int x1)] := hl
  unfold wp_X7_byLaw at h
  refine lv_iload_n hx hb dX7_byLaw_0 rfl (lv_at hl 1 rfl) ?_
  refine lv_iconst (v := (0 : Int32)) hx hb dX7_byLaw_1 (by decide) ?_
  refine lv_iconst (v := (2 : Int32)) hx hb dX7_byLaw_2 (by decide) ?_
  refine gs_i (va_runS (As := [.int x1, .int (0 : Int32), .int (2 : Int32)]) (rest := []) ⟨hx, hb, hml, hown, hts⟩ (c_X7_isIn l x1 (0 : Int32) (2 : Int32) _ h) (va_cwS 3 hts gX7_byLaw_X7_isIn rfl rfl rfl (by decide +kernel) ⟨Nat.le_of_ble_eq_true rfl, Nat.le_of_ble_eq_true rfl⟩) preEq rfl rfl hl.1 rfl (lv_room (Nat.le_of_ble_eq_true rfl)) dX7_byLaw_3 ⟨Nat.zero_le _, Nat.zero_le _⟩) (fun r_1 h => ?_)
  refine lv_if_eq (tgt := 19) hx hb dX7_byLaw_6 (by decide) (fun c_2 => ?_) (fun c_2 => ?_)
  · have h := h.1 c_2
    refine lv_aload_n hx hb dX7_byLaw_19 rfl (lv_at hl 0 rfl) ?_
    refine lv_bipush (v := (-2 : Int32)) hx hb dX7_byLaw_20 (by decide) ?_
    have hFc := fr_self hD hS hA
    refine gv_i (va_runV (As := [.int (-2 : Int32)]) (rest := []) ⟨hx, hb, hml, hown, hts⟩ (c_X7_no l D k a S0 H.size (-2 : Int32) _ h) (cwV 1 hts gX7_byLaw_X7_no rfl rfl rfl (by decide +kernel) ⟨Nat.le_of_ble_eq_true rfl, Nat.le_of_ble_eq_true rfl⟩) (gv_preV hK hnw hP hD (ci := 7) rfl 0 rfl) rfl rfl hl.1 rfl (lv_room (Nat.le_of_ble_eq_true rfl)) dX7_byLaw_22 ⟨Nat.zero_le _, Nat.zero_le _⟩) hS hFc (fun r_3 u_4 H locs h hP1 hD1 hk1 hS => ?_)
    have hP := hP1
    have hD := hD1.weaken (fun _ _ _ z => hFc _ z)
    exact W.iret (v := r_3) hx hb hr (fun t ht hW => ⟨⟨r_3, u_4, rfl, h, by rw [ht]; exact hP, va_K.moved hW.alike hK, hD⟩, hS.F ht⟩) hS.2.2 dX7_byLaw_25
  · have h := h.2 c_2
    refine lv_aload_n hx hb dX7_byLaw_9 rfl (lv_at hl 0 rfl) ?_
    refine lv_iload_n hx hb dX7_byLaw_10 rfl (lv_at hl 1 rfl) ?_
    refine lv_bipush (v := (-9 : Int32)) hx hb dX7_byLaw_11 (by decide) ?_
    have hFc := fr_self hD hS hA
    refine gv_i (va_runV (As := [.int x1, .int (-9 : Int32)]) (rest := []) ⟨hx, hb, hml, hown, hts⟩ (c_X7_closes l D k a S0 H.size x1 (-9 : Int32) _ h) (cwV 2 hts gX7_byLaw_X7_closes rfl rfl rfl (by decide +kernel) ⟨Nat.le_of_ble_eq_true rfl, Nat.le_of_ble_eq_true rfl⟩) (gv_preV hK hnw hP hD (ci := 7) rfl 0 rfl) rfl rfl hl.1 rfl (lv_room (Nat.le_of_ble_eq_true rfl)) dX7_byLaw_13 ⟨Nat.zero_le _, Nat.zero_le _⟩) hS hFc (fun r_5 u_6 H locs h hP1 hD1 hk1 hS => ?_)
    have hP := hP1
    have hD := hD1.weaken (fun _ _ _ z => hFc _ z)
    refine lv_goto (tgt := 25) hx hb dX7_byLaw_16 (by decide) ?_
    exact W.iret (v := r_5) hx hb hr (fun t ht hW => ⟨⟨r_5, u_6, rfl, h, by rw [ht]; exact hP, va_K.moved hW.alike hK, hD⟩, hS.F ht⟩) hS.2.2 dX7_byLaw_25
/-! X7_row -/
def wp_X7_row_24 (x1 : Int32) (Q : Int32 → St → Prop) (S0 : St) (x2 : Int32) : Prop := ((x2 = 0) → (vp_in (S0.1 29) 6 ∧ (∀ S_4, S_4 = (sA S0 27 (S0.1 29).toNatClampNeg x1) → (∀ S_6, S_6 = (sI S_4 29 ((S_4.1 29) + (1 : Int32))) → (Q (S_6.1 29) S_6))))) ∧ ((¬ x2 = 0) → (wp_X7_no S0 x2 (fun r_8 u_9 => Q r_8 u_9)))
def wp_X7_row (S0 : St) (x1 : Int32) (Q : Int32 → St → Prop) : Prop := wp_X7_bound x1 (0 : Int32) (99 : Int32) (fun r_1 => ((¬ r_1 = 0) → (wp_X7_row_24 x1 Q S0 r_1)) ∧ ((r_1 = 0) → (((¬ (S0.1 29) = (6 : Int32)) → (wp_X7_row_24 x1 Q S0 r_1)) ∧ (((S0.1 29) = (6 : Int32)) → (wp_X7_row_24 x1 Q S0 (-6 : Int32))))))
abbrev rmX7_row : Room := { frames := 1, cells := 0, slots := 0, locals := 22 }
set_option maxRecDepth 100000 in
set_option maxHeartbeats 4000000 in
theorem c_X7_row (l : Launch) (D : va_G) (k : Nat → ClassId) (a : Nat → Nat) (S0 : St) (sz : Nat) (x1 : Int32) (Q : Int32 → St → Prop) (h : wp_X7_row S0 x1 Q) : Met l yX7_row wsX7_row rmX7_row (cPc D k (wMo k a S0) [.ref (a 0), .int x1] sz) (va_Qi (fun (r : Int32) (u : St) => Q r u) (cB D k (va_A (wMo k a S0) sz) (fun u : St => wMo k a u)) (va_A (wMo k a S0) sz)) 0 0 (va_A (wMo k a S0) sz) := by
  refine ct_entry (cc := cX7_row) (maxL := 3) (ret := (some .int)) (Rn := RX7) (Qc := fun A => (va_Qi (fun (r : Int32) (u : St) => Q r u) (cB D k A (fun u : St => wMo k a u)) A)) (by decide) rfl rfl (Nat.le_of_ble_eq_true rfl) ?_
  intro p e s m below meth c hx hb hr hlocks hml hts hown hnw hK A hA H locs hP hD hS ls hl
  have hl : lv_has ls 3 [(0, .ref (a 0)), (1, .int x1)] := hl
  have ln_231 := hts (.fieldLink RX7 231 "WithTheSameOneModel" "rowMany" "I") (by decide +kernel)
  have ln_58 := hts (.fieldLink RX7 58 "WithTheSameOneModel" "row" "[I") (by decide +kernel)
  have in_Mo : ∀ w ∈ wsX70, w ∈ wsX7_row := fun _ h => List.mem_cons_of_mem _ (List.mem_append_right _ h)
  have L_24 : ∀ (S0 : St) (x2 : Int32), ∀ (H : Heap) (locs : List Loc) (ls : Array Slot), va_P D vwCl (wMo k a S0) H → va_D A (wMo k a S0) → va_S A s.heap H locs → lv_has ls 3 [(0, .ref (a 0)), (1, .int x1), (2, .int x2)] → wp_X7_row_24 x1 Q S0 x2 → W p l e rmX7_row s m ([.ref (a 0), .int x1] : List Value).toArray below meth c H locs 0 0 (MQ below (va_Qi (fun (r : Int32) (u : St) => Q r u) (cB D k A (fun u : St => wMo k a u)) A) ([.ref (a 0), .int x1] : List Value).toArray s 0 0 A) (F0 m 24 ls []) := by
    intro S0 x2 H locs ls hP hD hS hl h
    unfold wp_X7_row_24 at h
    refine lv_iload_n hx hb dX7_row_24 rfl (lv_at hl 2 rfl) ?_
    refine lv_if_eq (tgt := 34) hx hb dX7_row_25 (by decide) (fun c_3 => ?_) (fun c_3 => ?_)
    · have h := h.1 c_3
      refine lv_aload_n hx hb dX7_row_34 rfl (lv_at hl 0 rfl) ?_
      refine va_get (D := D) (ci := 7) (v := .ref (a 17)) (C := RX7) (T := TX7) (N := 33) hx hb hts in_Mo hown hK hP 0 rfl rfl 27 (by decide) ln_58 (fun _ h9 => h9) rfl dX7_row_35 ?_
      refine lv_aload_n hx hb dX7_row_38 rfl (lv_at hl 0 rfl) ?_
      refine va_get (D := D) (ci := 7) (v := .int (S0.1 29)) (C := RX7) (T := TX7) (N := 33) hx hb hts in_Mo hown hK hP 0 rfl rfl 29 (by decide) ln_231 (fun _ h9 => h9) rfl dX7_row_39 ?_
      refine lv_iload_n hx hb dX7_row_42 rfl (lv_at hl 1 rfl) ?_
      refine va_iast hx hb hK hP hD hS 17 0 rfl rfl h.1 dX7_row_43 (fun H locs hP hD hS => ?_)
      have h := h.2
      obtain ⟨S_4, e_5⟩ : ∃ z : St, z = (sA S0 27 (S0.1 29).toNatClampNeg x1) := ⟨_, rfl⟩
      have h := h S_4 e_5
      have hP : va_P D vwCl (wMo k a S_4) H := by rw [e_5]; exact hP
      have hD : va_D A (wMo k a S_4) := by rw [e_5]; exact hD
      refine lv_aload_n hx hb dX7_row_44 rfl (lv_at hl 0 rfl) ?_
      refine lv_dup hx hb dX7_row_45 rfl ?_
      refine va_get (D := D) (ci := 7) (v := .int (S_4.1 29)) (C := RX7) (T := TX7) (N := 33) hx hb hts in_Mo hown hK hP 0 rfl rfl 29 (by decide) ln_231 (fun _ h9 => h9) rfl dX7_row_46 ?_
      refine lv_iconst (v := (1 : Int32)) hx hb dX7_row_49 (by decide) ?_
      refine lv_iadd hx hb dX7_row_50 ?_
      refine va_put (D := D) (ci := 7) (v := .int ((S_4.1 29) + (1 : Int32))) (ty := .int) (C := RX7) (T := TX7) (N := 33) hx hb hts in_Mo tyX7 tyX7_ok nmX7 hown hK hP hD hS 0 rfl rfl 29 (by decide) ln_231 (fun _ h9 => h9) rfl (by decide +kernel) rfl rfl (Nat.le_of_ble_eq_true rfl) dX7_row_51 (fun H locs hP hD hS => ?_)
      obtain ⟨S_6, e_7⟩ : ∃ z : St, z = (sI S_4 29 ((S_4.1 29) + (1 : Int32))) := ⟨_, rfl⟩
      have h := h S_6 e_7
      have hP : va_P D vwCl (wMo k a S_6) H := by rw [e_7]; exact hP
      have hD : va_D A (wMo k a S_6) := by rw [e_7]; exact hD
      refine lv_aload_n hx hb dX7_row_54 rfl (lv_at hl 0 rfl) ?_
      refine va_get (D := D) (ci := 7) (v := .int (S_6.1 29)) (C := RX7) (T := TX7) (N := 33) hx hb hts in_Mo hown hK hP 0 rfl rfl 29 (by decide) ln_231 (fun _ h9 => h9) rfl dX7_row_55 ?_
      exact W.iret (v := (S_6.1 29)) hx hb hr (fun t ht hW => ⟨⟨(S_6.1 29), S_6, rfl, h, by rw [ht]; exact hP, va_K.moved hW.alike hK, hD⟩, hS.F ht⟩) hS.2.2 dX7_row_58
    · have h := h.2 c_3
      refine lv_aload_n hx hb dX7_row_28 rfl (lv_at hl 0 rfl) ?_
      refine lv_iload_n hx hb dX7_row_29 rfl (lv_at hl 2 rfl) ?_
      have hFc := fr_self hD hS hA
      refine gv_i (va_runV (As := [.int x2]) (rest := []) ⟨hx, hb, hml, hown, hts⟩ (c_X7_no l D k a S0 H.size x2 _ h) (cwV 1 hts gX7_row_X7_no rfl rfl rfl (by decide +kernel) ⟨Nat.le_of_ble_eq_true rfl, Nat.le_of_ble_eq_true rfl⟩) (gv_preV hK hnw hP hD (ci := 7) rfl 0 rfl) rfl rfl hl.1 rfl (lv_room (Nat.le_of_ble_eq_true rfl)) dX7_row_30 ⟨Nat.zero_le _, Nat.zero_le _⟩) hS hFc (fun r_8 u_9 H locs h hP1 hD1 hk1 hS => ?_)
      have hP := hP1
      have hD := hD1.weaken (fun _ _ _ z => hFc _ z)
      exact W.iret (v := r_8) hx hb hr (fun t ht hW => ⟨⟨r_8, u_9, rfl, h, by rw [ht]; exact hP, va_K.moved hW.alike hK, hD⟩, hS.F ht⟩) hS.2.2 dX7_row_33
  unfold wp_X7_row at h
  refine lv_iload_n hx hb dX7_row_0 rfl (lv_at hl 1 rfl) ?_
  refine lv_iconst (v := (0 : Int32)) hx hb dX7_row_1 (by decide) ?_
  refine lv_bipush (v := (99 : Int32)) hx hb dX7_row_2 (by decide) ?_
  refine gs_i (va_runS (As := [.int x1, .int (0 : Int32), .int (99 : Int32)]) (rest := []) ⟨hx, hb, hml, hown, hts⟩ (c_X7_bound l x1 (0 : Int32) (99 : Int32) _ h) (va_cwS 3 hts gX7_row_X7_bound rfl rfl rfl (by decide +kernel) ⟨Nat.le_of_ble_eq_true rfl, Nat.le_of_ble_eq_true rfl⟩) preEq rfl rfl hl.1 rfl (lv_room (Nat.le_of_ble_eq_true rfl)) dX7_row_4 ⟨Nat.zero_le _, Nat.zero_le _⟩) (fun r_1 h => ?_)
  refine lv_istore_n (lv' := [(2, .int r_1), (0, .ref (a 0)), (1, .int x1)]) hx hb dX7_row_7 rfl hl (by decide) rfl (fun ls hl => ?_)
  refine lv_iload_n hx hb dX7_row_8 rfl (lv_at hl 0 rfl) ?_
  refine lv_if_ne (tgt := 24) hx hb dX7_row_9 (by decide) (fun c_2 => ?_) (fun c_2 => ?_)
  · have h := h.1 c_2
    exact L_24 S0 r_1 H locs ls hP hD hS (lv_sub hl [1, 2, 0] rfl) h
  · have h := h.2 c_2
    refine lv_aload_n hx hb dX7_row_12 rfl (lv_at hl 1 rfl) ?_
    refine va_get (D := D) (ci := 7) (v := .int (S0.1 29)) (C := RX7) (T := TX7) (N := 33) hx hb hts in_Mo hown hK hP 0 rfl rfl 29 (by decide) ln_231 (fun _ h9 => h9) rfl dX7_row_13 ?_
    refine lv_bipush (v := (6 : Int32)) hx hb dX7_row_16 (by decide) ?_
    refine lv_icmp_ne (tgt := 24) hx hb dX7_row_18 (by decide) (fun c_10 => ?_) (fun c_10 => ?_)
    · have h := h.1 c_10
      exact L_24 S0 r_1 H locs ls hP hD hS (lv_sub hl [1, 2, 0] rfl) h
    · have h := h.2 c_10
      refine lv_bipush (v := (-6 : Int32)) hx hb dX7_row_21 (by decide) ?_
      refine lv_istore_n (lv' := [(2, .int (-6 : Int32)), (0, .ref (a 0)), (1, .int x1)]) hx hb dX7_row_23 rfl hl (by decide) rfl (fun ls hl => ?_)
      exact L_24 S0 (-6 : Int32) H locs ls hP hD hS (lv_sub hl [1, 2, 0] rfl) h
/-! X7_clear -/
def wp_X7_clear (S0 : St) (Q : Int32 → St → Prop) : Prop := ∀ S_1, S_1 = (sI S0 29 (0 : Int32)) → (Q (S0.1 29) S_1)
abbrev rmX7_clear : Room := { frames := 0, cells := 0, slots := 0, locals := 0 }
set_option maxRecDepth 100000 in
set_option maxHeartbeats 4000000 in
theorem c_X7_clear (l : Launch) (D : va_G) (k : Nat → ClassId) (a : Nat → Nat) (S0 : St) (sz : Nat) (Q : Int32 → St → Prop) (h : wp_X7_clear S0 Q) : Met l yX7_clear wsX7_clear rmX7_clear (cPc D k (wMo k a S0) [.ref (a 0)] sz) (va_Qi (fun (r : Int32) (u : St) => Q r u) (cB D k (va_A (wMo k a S0) sz) (fun u : St => wMo k a u)) (va_A (wMo k a S0) sz)) 0 0 (va_A (wMo k a S0) sz) := by
  refine ct_entry (cc := cX7_clear) (maxL := 2) (ret := (some .int)) (Rn := RX7) (Qc := fun A => (va_Qi (fun (r : Int32) (u : St) => Q r u) (cB D k A (fun u : St => wMo k a u)) A)) (by decide) rfl rfl (Nat.le_of_ble_eq_true rfl) ?_
  intro p e s m below meth c hx hb hr hlocks hml hts hown hnw hK A hA H locs hP hD hS ls hl
  have hl : lv_has ls 2 [(0, .ref (a 0))] := hl
  have ln_231 := hts (.fieldLink RX7 231 "WithTheSameOneModel" "rowMany" "I") (by decide +kernel)
  have in_Mo : ∀ w ∈ wsX70, w ∈ wsX7_clear := fun _ h => List.mem_cons_of_mem _ (List.mem_append_right _ h)
  unfold wp_X7_clear at h
  refine lv_aload_n hx hb dX7_clear_0 rfl (lv_at hl 0 rfl) ?_
  refine va_get (D := D) (ci := 7) (v := .int (S0.1 29)) (C := RX7) (T := TX7) (N := 33) hx hb hts in_Mo hown hK hP 0 rfl rfl 29 (by decide) ln_231 (fun _ h9 => h9) rfl dX7_clear_1 ?_
  refine lv_istore_n (lv' := [(1, .int (S0.1 29)), (0, .ref (a 0))]) hx hb dX7_clear_4 rfl hl (by decide) rfl (fun ls hl => ?_)
  refine lv_aload_n hx hb dX7_clear_5 rfl (lv_at hl 1 rfl) ?_
  refine lv_iconst (v := (0 : Int32)) hx hb dX7_clear_6 (by decide) ?_
  refine va_put (D := D) (ci := 7) (v := .int (0 : Int32)) (ty := .int) (C := RX7) (T := TX7) (N := 33) hx hb hts in_Mo tyX7 tyX7_ok nmX7 hown hK hP hD hS 0 rfl rfl 29 (by decide) ln_231 (fun _ h9 => h9) rfl (by decide +kernel) rfl rfl (Nat.le_of_ble_eq_true rfl) dX7_clear_7 (fun H locs hP hD hS => ?_)
  obtain ⟨S_1, e_2⟩ : ∃ z : St, z = (sI S0 29 (0 : Int32)) := ⟨_, rfl⟩
  have h := h S_1 e_2
  have hP : va_P D vwCl (wMo k a S_1) H := by rw [e_2]; exact hP
  have hD : va_D A (wMo k a S_1) := by rw [e_2]; exact hD
  refine lv_iload_n hx hb dX7_clear_10 rfl (lv_at hl 0 rfl) ?_
  exact W.iret (v := (S0.1 29)) hx hb hr (fun t ht hW => ⟨⟨(S0.1 29), S_1, rfl, h, by rw [ht]; exact hP, va_K.moved hW.alike hK, hD⟩, hS.F ht⟩) hS.2.2 dX7_clear_11
/-! X7_judged -/
def wp_X7_judged_92 (Q : Int32 → St → Prop) (S0 : St) (x1 : Int32) : Prop := wp_X7_passesAll S0 (1 : Int32) (0 : Int32) (fun u_5 => Q x1 u_5)
def wp_X7_judged_11 (Q : Int32 → St → Prop) : Nat → St → Int32 → Int32 → Prop
  | 0, _, _, _ => False
  | n + 1, S0, x1, x2 => (((S0.1 29) ≤ x2) → (wp_X7_judged_92 Q S0 x1)) ∧ ((¬ (S0.1 29) ≤ x2) → (((0 ≤ x1) → (wp_X7_judged_92 Q S0 x1)) ∧ ((¬ 0 ≤ x1) → (vp_in x2 6 ∧ (vp_in (S0.2 28 x2.toNatClampNeg) 6 ∧ (∀ z_7 : Int32, z_7 = ((S0.2 27 (S0.2 28 x2.toNatClampNeg).toNatClampNeg) / (10 : Int32)) → (vp_in x2 6 ∧ (vp_in (S0.2 28 x2.toNatClampNeg) 6 ∧ (∀ z_9 : Int32, z_9 = ((S0.2 27 (S0.2 28 x2.toNatClampNeg).toNatClampNeg) - (S0.2 27 (S0.2 28 x2.toNatClampNeg).toNatClampNeg) / (10 : Int32) * (10 : Int32)) → (wp_X7_areTwo S0 z_7 z_9 (fun r_11 u_12 => ((r_11 = 0) → (wp_X7_judged_11 Q n u_12 x2 (x2 + 1))) ∧ ((¬ r_11 = 0) → (wp_X7_mayDance u_12 z_7 z_9 (fun r_14 u_15 => ((r_14 = 0) → (wp_X7_judged_11 Q n u_15 x2 (x2 + 1))) ∧ ((¬ r_14 = 0) → (wp_X7_dancesByLeast u_15 z_7 z_9 (fun u_18 => wp_X7_judged_11 Q n u_18 x1 (x2 + 1))))))))))))))))))
def wp_X7_judged (S0 : St) (Q : Int32 → St → Prop) : Prop := wp_X7_passesAll S0 (1 : Int32) (1 : Int32) (fun u_2 => ∃ i, wp_X7_judged_11 Q i u_2 (-9 : Int32) (0 : Int32))
abbrev rmX7_judged : Room := { frames := 5, cells := 0, slots := 0, locals := 119 }
set_option maxRecDepth 100000 in
set_option maxHeartbeats 4000000 in
theorem c_X7_judged (l : Launch) (D : va_G) (k : Nat → ClassId) (a : Nat → Nat) (S0 : St) (sz : Nat) (Q : Int32 → St → Prop) (h : wp_X7_judged S0 Q) : Met l yX7_judged wsX7_judged rmX7_judged (cPc D k (wMo k a S0) [.ref (a 0)] sz) (va_Qi (fun (r : Int32) (u : St) => Q r u) (cB D k (va_A (wMo k a S0) sz) (fun u : St => wMo k a u)) (va_A (wMo k a S0) sz)) 0 0 (va_A (wMo k a S0) sz) := by
  refine ct_entry (cc := cX7_judged) (maxL := 5) (ret := (some .int)) (Rn := RX7) (Qc := fun A => (va_Qi (fun (r : Int32) (u : St) => Q r u) (cB D k A (fun u : St => wMo k a u)) A)) (by decide) rfl rfl (Nat.le_of_ble_eq_true rfl) ?_
  intro p e s m below meth c hx hb hr hlocks hml hts hown hnw hK A hA H locs hP hD hS ls hl
  have hl : lv_has ls 5 [(0, .ref (a 0))] := hl
  have ln_231 := hts (.fieldLink RX7 231 "WithTheSameOneModel" "rowMany" "I") (by decide +kernel)
  have ln_58 := hts (.fieldLink RX7 58 "WithTheSameOneModel" "row" "[I") (by decide +kernel)
  have ln_61 := hts (.fieldLink RX7 61 "WithTheSameOneModel" "order" "[I") (by decide +kernel)
  have in_Mo : ∀ w ∈ wsX70, w ∈ wsX7_judged := fun _ h => List.mem_cons_of_mem _ (List.mem_append_right _ h)
  have L_92 : ∀ (S0 : St) (x1 : Int32), ∀ (H : Heap) (locs : List Loc) (ls : Array Slot), va_P D vwCl (wMo k a S0) H → va_D A (wMo k a S0) → va_S A s.heap H locs → lv_has ls 5 [(0, .ref (a 0)), (1, .int x1)] → wp_X7_judged_92 Q S0 x1 → W p l e rmX7_judged s m ([.ref (a 0)] : List Value).toArray below meth c H locs 0 0 (MQ below (va_Qi (fun (r : Int32) (u : St) => Q r u) (cB D k A (fun u : St => wMo k a u)) A) ([.ref (a 0)] : List Value).toArray s 0 0 A) (F0 m 92 ls []) := by
    intro S0 x1 H locs ls hP hD hS hl h
    unfold wp_X7_judged_92 at h
    refine lv_aload_n hx hb dX7_judged_92 rfl (lv_at hl 0 rfl) ?_
    refine lv_iconst (v := (1 : Int32)) hx hb dX7_judged_93 (by decide) ?_
    refine lv_iconst (v := (0 : Int32)) hx hb dX7_judged_94 (by decide) ?_
    have hFc := fr_self hD hS hA
    refine gv_v (va_runV (As := [.int (1 : Int32), .int (0 : Int32)]) (rest := []) ⟨hx, hb, hml, hown, hts⟩ (c_X7_passesAll l D k a S0 H.size (1 : Int32) (0 : Int32) _ h) (cwV 2 hts gX7_judged_X7_passesAll rfl rfl rfl (by decide +kernel) ⟨Nat.le_of_ble_eq_true rfl, Nat.le_of_ble_eq_true rfl⟩) (gv_preV hK hnw hP hD (ci := 7) rfl 0 rfl) rfl rfl hl.1 rfl (lv_room (Nat.le_of_ble_eq_true rfl)) dX7_judged_95 ⟨Nat.zero_le _, Nat.zero_le _⟩) hS hFc (fun u_5 H locs h hP1 hD1 hk1 hS => ?_)
    have hP := hP1
    have hD := hD1.weaken (fun _ _ _ z => hFc _ z)
    refine lv_iload_n hx hb dX7_judged_98 rfl (lv_at hl 1 rfl) ?_
    exact W.iret (v := x1) hx hb hr (fun t ht hW => ⟨⟨x1, u_5, rfl, h, by rw [ht]; exact hP, va_K.moved hW.alike hK, hD⟩, hS.F ht⟩) hS.2.2 dX7_judged_99
  have L_11 : ∀ (n : Nat), ∀ (S0 : St) (x1 : Int32) (x2 : Int32), ∀ (H : Heap) (locs : List Loc) (ls : Array Slot), va_P D vwCl (wMo k a S0) H → va_D A (wMo k a S0) → va_S A s.heap H locs → lv_has ls 5 [(0, .ref (a 0)), (1, .int x1), (2, .int x2)] → wp_X7_judged_11 Q n S0 x1 x2 → W p l e rmX7_judged s m ([.ref (a 0)] : List Value).toArray below meth c H locs 0 0 (MQ below (va_Qi (fun (r : Int32) (u : St) => Q r u) (cB D k A (fun u : St => wMo k a u)) A) ([.ref (a 0)] : List Value).toArray s 0 0 A) (F0 m 11 ls []) := by
    intro n
    induction n with
    | zero => intro S0 x1 x2 H locs ls hP hD hS hl h; exact absurd h (by unfold wp_X7_judged_11; exact id)
    | succ n ih =>
      intro S0 x1 x2 H locs ls hP hD hS hl h
      unfold wp_X7_judged_11 at h
      refine lv_iload_n hx hb dX7_judged_11 rfl (lv_at hl 2 rfl) ?_
      refine lv_aload_n hx hb dX7_judged_12 rfl (lv_at hl 0 rfl) ?_
      refine va_get (D := D) (ci := 7) (v := .int (S0.1 29)) (C := RX7) (T := TX7) (N := 33) hx hb hts in_Mo hown hK hP 0 rfl rfl 29 (by decide) ln_231 (fun _ h9 => h9) rfl dX7_judged_13 ?_
      refine lv_icmp_ge (tgt := 92) hx hb dX7_judged_16 (by decide) (fun c_3 => ?_) (fun c_3 => ?_)
      · have h := h.1 c_3
        exact L_92 S0 x1 H locs ls hP hD hS (lv_sub hl [0, 1] rfl) h
      · have h := h.2 c_3
        refine lv_iload_n hx hb dX7_judged_19 rfl (lv_at hl 1 rfl) ?_
        refine lv_if_ge (tgt := 92) hx hb dX7_judged_20 (by decide) (fun c_6 => ?_) (fun c_6 => ?_)
        · have h := h.1 c_6
          exact L_92 S0 x1 H locs ls hP hD hS (lv_sub hl [0, 1] rfl) h
        · have h := h.2 c_6
          refine lv_aload_n hx hb dX7_judged_23 rfl (lv_at hl 0 rfl) ?_
          refine va_get (D := D) (ci := 7) (v := .ref (a 17)) (C := RX7) (T := TX7) (N := 33) hx hb hts in_Mo hown hK hP 0 rfl rfl 27 (by decide) ln_58 (fun _ h9 => h9) rfl dX7_judged_24 ?_
          refine lv_aload_n hx hb dX7_judged_27 rfl (lv_at hl 0 rfl) ?_
          refine va_get (D := D) (ci := 7) (v := .ref (a 18)) (C := RX7) (T := TX7) (N := 33) hx hb hts in_Mo hown hK hP 0 rfl rfl 28 (by decide) ln_61 (fun _ h9 => h9) rfl dX7_judged_28 ?_
          refine lv_iload_n hx hb dX7_judged_31 rfl (lv_at hl 2 rfl) ?_
          refine va_iald hx hb hK hP 18 0 rfl rfl h.1 dX7_judged_32 ?_
          have h := h.2
          refine va_iald hx hb hK hP 17 0 rfl rfl h.1 dX7_judged_33 ?_
          have h := h.2
          refine lv_bipush (v := (10 : Int32)) hx hb dX7_judged_34 (by decide) ?_
          refine lv_idiv hx hb dX7_judged_36 (by decide) ?_
          refine lv_topi (fun z_7 e_8 => ?_)
          have h := h z_7 e_8
          refine lv_istore_n (lv' := [(3, .int z_7), (0, .ref (a 0)), (1, .int x1), (2, .int x2)]) hx hb dX7_judged_37 rfl hl (by decide) rfl (fun ls hl => ?_)
          refine lv_aload_n hx hb dX7_judged_38 rfl (lv_at hl 1 rfl) ?_
          refine va_get (D := D) (ci := 7) (v := .ref (a 17)) (C := RX7) (T := TX7) (N := 33) hx hb hts in_Mo hown hK hP 0 rfl rfl 27 (by decide) ln_58 (fun _ h9 => h9) rfl dX7_judged_39 ?_
          refine lv_aload_n hx hb dX7_judged_42 rfl (lv_at hl 1 rfl) ?_
          refine va_get (D := D) (ci := 7) (v := .ref (a 18)) (C := RX7) (T := TX7) (N := 33) hx hb hts in_Mo hown hK hP 0 rfl rfl 28 (by decide) ln_61 (fun _ h9 => h9) rfl dX7_judged_43 ?_
          refine lv_iload_n hx hb dX7_judged_46 rfl (lv_at hl 3 rfl) ?_
          refine va_iald hx hb hK hP 18 0 rfl rfl h.1 dX7_judged_47 ?_
          have h := h.2
          refine va_iald hx hb hK hP 17 0 rfl rfl h.1 dX7_judged_48 ?_
          have h := h.2
          refine lv_bipush (v := (10 : Int32)) hx hb dX7_judged_49 (by decide) ?_
          refine lv_irem hx hb dX7_judged_51 (by decide) ?_
          refine lv_topi (fun z_9 e_10 => ?_)
          have h := h z_9 e_10
          refine lv_istore (lv' := [(4, .int z_9), (3, .int z_7), (0, .ref (a 0)), (1, .int x1), (2, .int x2)]) hx hb dX7_judged_52 hl (by decide) rfl (fun ls hl => ?_)
          refine lv_aload_n hx hb dX7_judged_54 rfl (lv_at hl 2 rfl) ?_
          refine lv_iload_n hx hb dX7_judged_55 rfl (lv_at hl 1 rfl) ?_
          refine lv_iload hx hb dX7_judged_56 (lv_at hl 0 rfl) ?_
          have hFc := fr_self hD hS hA
          refine gv_i (va_runV (As := [.int z_7, .int z_9]) (rest := []) ⟨hx, hb, hml, hown, hts⟩ (c_X7_areTwo l D k a S0 H.size z_7 z_9 _ h) (cwV 2 hts gX7_judged_X7_areTwo rfl rfl rfl (by decide +kernel) ⟨Nat.le_of_ble_eq_true rfl, Nat.le_of_ble_eq_true rfl⟩) (gv_preV hK hnw hP hD (ci := 7) rfl 0 rfl) rfl rfl hl.1 rfl (lv_room (Nat.le_of_ble_eq_true rfl)) dX7_judged_58 ⟨Nat.zero_le _, Nat.zero_le _⟩) hS hFc (fun r_11 u_12 H locs h hP1 hD1 hk1 hS => ?_)
          have hP := hP1
          have hD := hD1.weaken (fun _ _ _ z => hFc _ z)
          refine lv_if_eq (tgt := 84) hx hb dX7_judged_61 (by decide) (fun c_13 => ?_) (fun c_13 => ?_)
          · have h := h.1 c_13
            refine lv_iload_n hx hb dX7_judged_84 rfl (lv_at hl 4 rfl) ?_
            refine lv_istore_n (lv' := [(1, .int x2), (4, .int z_9), (3, .int z_7), (0, .ref (a 0)), (2, .int x2)]) hx hb dX7_judged_85 rfl hl (by decide) rfl (fun ls hl => ?_)
            refine lv_iinc (v := (x2 + 1)) (lv' := [(2, .int (x2 + 1)), (1, .int x2), (4, .int z_9), (3, .int z_7), (0, .ref (a 0))]) hx hb dX7_judged_86 hl (k := 4) rfl rfl (by decide) rfl (fun ls hl => ?_)
            refine lv_goto (tgt := 11) hx hb dX7_judged_89 (by decide) ?_
            exact ih u_12 x2 (x2 + 1) H locs ls hP hD hS (lv_sub hl [4, 1, 0] rfl) h
          · have h := h.2 c_13
            refine lv_aload_n hx hb dX7_judged_64 rfl (lv_at hl 2 rfl) ?_
            refine lv_iload_n hx hb dX7_judged_65 rfl (lv_at hl 1 rfl) ?_
            refine lv_iload hx hb dX7_judged_66 (lv_at hl 0 rfl) ?_
            have hFc := fr_self hD hS hA
            refine gv_i (va_runV (As := [.int z_7, .int z_9]) (rest := []) ⟨hx, hb, hml, hown, hts⟩ (c_X7_mayDance l D k a u_12 H.size z_7 z_9 _ h) (cwV 2 hts gX7_judged_X7_mayDance rfl rfl rfl (by decide +kernel) ⟨Nat.le_of_ble_eq_true rfl, Nat.le_of_ble_eq_true rfl⟩) (gv_preV hK hnw hP hD (ci := 7) rfl 0 rfl) rfl rfl hl.1 rfl (lv_room (Nat.le_of_ble_eq_true rfl)) dX7_judged_68 ⟨Nat.zero_le _, Nat.zero_le _⟩) hS hFc (fun r_14 u_15 H locs h hP1 hD1 hk1 hS => ?_)
            have hP := hP1
            have hD := hD1.weaken (fun _ _ _ z => hFc _ z)
            refine lv_if_eq (tgt := 84) hx hb dX7_judged_71 (by decide) (fun c_16 => ?_) (fun c_16 => ?_)
            · have h := h.1 c_16
              refine lv_iload_n hx hb dX7_judged_84 rfl (lv_at hl 4 rfl) ?_
              refine lv_istore_n (lv' := [(1, .int x2), (4, .int z_9), (3, .int z_7), (0, .ref (a 0)), (2, .int x2)]) hx hb dX7_judged_85 rfl hl (by decide) rfl (fun ls hl => ?_)
              refine lv_iinc (v := (x2 + 1)) (lv' := [(2, .int (x2 + 1)), (1, .int x2), (4, .int z_9), (3, .int z_7), (0, .ref (a 0))]) hx hb dX7_judged_86 hl (k := 4) rfl rfl (by decide) rfl (fun ls hl => ?_)
              refine lv_goto (tgt := 11) hx hb dX7_judged_89 (by decide) ?_
              exact ih u_15 x2 (x2 + 1) H locs ls hP hD hS (lv_sub hl [4, 1, 0] rfl) h
            · have h := h.2 c_16
              refine lv_aload_n hx hb dX7_judged_74 rfl (lv_at hl 2 rfl) ?_
              refine lv_iload_n hx hb dX7_judged_75 rfl (lv_at hl 1 rfl) ?_
              refine lv_iload hx hb dX7_judged_76 (lv_at hl 0 rfl) ?_
              have hFc := fr_self hD hS hA
              refine gv_v (va_runV (As := [.int z_7, .int z_9]) (rest := []) ⟨hx, hb, hml, hown, hts⟩ (c_X7_dancesByLeast l D k a u_15 H.size z_7 z_9 _ h) (cwV 2 hts gX7_judged_X7_dancesByLeast rfl rfl rfl (by decide +kernel) ⟨Nat.le_of_ble_eq_true rfl, Nat.le_of_ble_eq_true rfl⟩) (gv_preV hK hnw hP hD (ci := 7) rfl 0 rfl) rfl rfl hl.1 rfl (lv_room (Nat.le_of_ble_eq_true rfl)) dX7_judged_78 ⟨Nat.zero_le _, Nat.zero_le _⟩) hS hFc (fun u_18 H locs h hP1 hD1 hk1 hS => ?_)
              have hP := hP1
              have hD := hD1.weaken (fun _ _ _ z => hFc _ z)
              refine lv_goto (tgt := 86) hx hb dX7_judged_81 (by decide) ?_
              refine lv_iinc (v := (x2 + 1)) (lv' := [(2, .int (x2 + 1)), (4, .int z_9), (3, .int z_7), (0, .ref (a 0)), (1, .int x1)]) hx hb dX7_judged_86 hl (k := 4) rfl rfl (by decide) rfl (fun ls hl => ?_)
              refine lv_goto (tgt := 11) hx hb dX7_judged_89 (by decide) ?_
              exact ih u_18 x1 (x2 + 1) H locs ls hP hD hS (lv_sub hl [3, 4, 0] rfl) h
  unfold wp_X7_judged at h
  refine lv_aload_n hx hb dX7_judged_0 rfl (lv_at hl 0 rfl) ?_
  refine lv_iconst (v := (1 : Int32)) hx hb dX7_judged_1 (by decide) ?_
  refine lv_iconst (v := (1 : Int32)) hx hb dX7_judged_2 (by decide) ?_
  have hFc := fr_self hD hS hA
  refine gv_v (va_runV (As := [.int (1 : Int32), .int (1 : Int32)]) (rest := []) ⟨hx, hb, hml, hown, hts⟩ (c_X7_passesAll l D k a S0 H.size (1 : Int32) (1 : Int32) _ h) (cwV 2 hts gX7_judged_X7_passesAll rfl rfl rfl (by decide +kernel) ⟨Nat.le_of_ble_eq_true rfl, Nat.le_of_ble_eq_true rfl⟩) (gv_preV hK hnw hP hD (ci := 7) rfl 0 rfl) rfl rfl hl.1 rfl (lv_room (Nat.le_of_ble_eq_true rfl)) dX7_judged_3 ⟨Nat.zero_le _, Nat.zero_le _⟩) hS hFc (fun u_2 H locs h hP1 hD1 hk1 hS => ?_)
  have hP := hP1
  have hD := hD1.weaken (fun _ _ _ z => hFc _ z)
  refine lv_bipush (v := (-9 : Int32)) hx hb dX7_judged_6 (by decide) ?_
  refine lv_istore_n (lv' := [(1, .int (-9 : Int32)), (0, .ref (a 0))]) hx hb dX7_judged_8 rfl hl (by decide) rfl (fun ls hl => ?_)
  refine lv_iconst (v := (0 : Int32)) hx hb dX7_judged_9 (by decide) ?_
  refine lv_istore_n (lv' := [(2, .int (0 : Int32)), (1, .int (-9 : Int32)), (0, .ref (a 0))]) hx hb dX7_judged_10 rfl hl (by decide) rfl (fun ls hl => ?_)
  obtain ⟨n_19, h⟩ := h
  exact L_11 n_19 u_2 (-9 : Int32) (0 : Int32) H locs ls hP hD hS (lv_sub hl [2, 1, 0] rfl) h
/-! X7_judge -/
def wp_X7_judge_2 (Q : Int32 → St → Prop) : Nat → St → Int32 → Prop
  | 0, _, _ => False
  | n + 1, S0, x1 => (((S0.1 29) ≤ x1) → (wp_X7_judged S0 (fun r_2 u_3 => Q r_2 u_3))) ∧ ((¬ (S0.1 29) ≤ x1) → (vp_in x1 6 ∧ (∀ S_4, S_4 = (sA S0 28 x1.toNatClampNeg x1) → (wp_X7_judge_2 Q n S_4 (x1 + 1)))))
def wp_X7_judge (S0 : St) (Q : Int32 → St → Prop) : Prop := ∃ i, wp_X7_judge_2 Q i S0 (0 : Int32)
abbrev rmX7_judge : Room := { frames := 6, cells := 0, slots := 0, locals := 143 }
set_option maxRecDepth 100000 in
set_option maxHeartbeats 4000000 in
theorem c_X7_judge (l : Launch) (D : va_G) (k : Nat → ClassId) (a : Nat → Nat) (S0 : St) (sz : Nat) (Q : Int32 → St → Prop) (h : wp_X7_judge S0 Q) : Met l yX7_judge wsX7_judge rmX7_judge (cPc D k (wMo k a S0) [.ref (a 0)] sz) (va_Qi (fun (r : Int32) (u : St) => Q r u) (cB D k (va_A (wMo k a S0) sz) (fun u : St => wMo k a u)) (va_A (wMo k a S0) sz)) 0 0 (va_A (wMo k a S0) sz) := by
  refine ct_entry (cc := cX7_judge) (maxL := 2) (ret := (some .int)) (Rn := RX7) (Qc := fun A => (va_Qi (fun (r : Int32) (u : St) => Q r u) (cB D k A (fun u : St => wMo k a u)) A)) (by decide) rfl rfl (Nat.le_of_ble_eq_true rfl) ?_
  intro p e s m below meth c hx hb hr hlocks hml hts hown hnw hK A hA H locs hP hD hS ls hl
  have hl : lv_has ls 2 [(0, .ref (a 0))] := hl
  have ln_231 := hts (.fieldLink RX7 231 "WithTheSameOneModel" "rowMany" "I") (by decide +kernel)
  have ln_61 := hts (.fieldLink RX7 61 "WithTheSameOneModel" "order" "[I") (by decide +kernel)
  have in_Mo : ∀ w ∈ wsX70, w ∈ wsX7_judge := fun _ h => List.mem_cons_of_mem _ (List.mem_append_right _ h)
  have L_2 : ∀ (n : Nat), ∀ (S0 : St) (x1 : Int32), ∀ (H : Heap) (locs : List Loc) (ls : Array Slot), va_P D vwCl (wMo k a S0) H → va_D A (wMo k a S0) → va_S A s.heap H locs → lv_has ls 2 [(0, .ref (a 0)), (1, .int x1)] → wp_X7_judge_2 Q n S0 x1 → W p l e rmX7_judge s m ([.ref (a 0)] : List Value).toArray below meth c H locs 0 0 (MQ below (va_Qi (fun (r : Int32) (u : St) => Q r u) (cB D k A (fun u : St => wMo k a u)) A) ([.ref (a 0)] : List Value).toArray s 0 0 A) (F0 m 2 ls []) := by
    intro n
    induction n with
    | zero => intro S0 x1 H locs ls hP hD hS hl h; exact absurd h (by unfold wp_X7_judge_2; exact id)
    | succ n ih =>
      intro S0 x1 H locs ls hP hD hS hl h
      unfold wp_X7_judge_2 at h
      refine lv_iload_n hx hb dX7_judge_2 rfl (lv_at hl 1 rfl) ?_
      refine lv_aload_n hx hb dX7_judge_3 rfl (lv_at hl 0 rfl) ?_
      refine va_get (D := D) (ci := 7) (v := .int (S0.1 29)) (C := RX7) (T := TX7) (N := 33) hx hb hts in_Mo hown hK hP 0 rfl rfl 29 (by decide) ln_231 (fun _ h9 => h9) rfl dX7_judge_4 ?_
      refine lv_icmp_ge (tgt := 23) hx hb dX7_judge_7 (by decide) (fun c_1 => ?_) (fun c_1 => ?_)
      · have h := h.1 c_1
        refine lv_aload_n hx hb dX7_judge_23 rfl (lv_at hl 0 rfl) ?_
        have hFc := fr_self hD hS hA
        refine gv_i (va_runV (As := []) (rest := []) ⟨hx, hb, hml, hown, hts⟩ (c_X7_judged l D k a S0 H.size _ h) (cwV 0 hts gX7_judge_X7_judged rfl rfl rfl (by decide +kernel) ⟨Nat.le_of_ble_eq_true rfl, Nat.le_of_ble_eq_true rfl⟩) (gv_preV hK hnw hP hD (ci := 7) rfl 0 rfl) rfl rfl hl.1 rfl (lv_room (Nat.le_of_ble_eq_true rfl)) dX7_judge_24 ⟨Nat.zero_le _, Nat.zero_le _⟩) hS hFc (fun r_2 u_3 H locs h hP1 hD1 hk1 hS => ?_)
        have hP := hP1
        have hD := hD1.weaken (fun _ _ _ z => hFc _ z)
        exact W.iret (v := r_2) hx hb hr (fun t ht hW => ⟨⟨r_2, u_3, rfl, h, by rw [ht]; exact hP, va_K.moved hW.alike hK, hD⟩, hS.F ht⟩) hS.2.2 dX7_judge_27
      · have h := h.2 c_1
        refine lv_aload_n hx hb dX7_judge_10 rfl (lv_at hl 0 rfl) ?_
        refine va_get (D := D) (ci := 7) (v := .ref (a 18)) (C := RX7) (T := TX7) (N := 33) hx hb hts in_Mo hown hK hP 0 rfl rfl 28 (by decide) ln_61 (fun _ h9 => h9) rfl dX7_judge_11 ?_
        refine lv_iload_n hx hb dX7_judge_14 rfl (lv_at hl 1 rfl) ?_
        refine lv_iload_n hx hb dX7_judge_15 rfl (lv_at hl 1 rfl) ?_
        refine va_iast hx hb hK hP hD hS 18 0 rfl rfl h.1 dX7_judge_16 (fun H locs hP hD hS => ?_)
        have h := h.2
        obtain ⟨S_4, e_5⟩ : ∃ z : St, z = (sA S0 28 x1.toNatClampNeg x1) := ⟨_, rfl⟩
        have h := h S_4 e_5
        have hP : va_P D vwCl (wMo k a S_4) H := by rw [e_5]; exact hP
        have hD : va_D A (wMo k a S_4) := by rw [e_5]; exact hD
        refine lv_iinc (v := (x1 + 1)) (lv' := [(1, .int (x1 + 1)), (0, .ref (a 0))]) hx hb dX7_judge_17 hl (k := 1) rfl rfl (by decide) rfl (fun ls hl => ?_)
        refine lv_goto (tgt := 2) hx hb dX7_judge_20 (by decide) ?_
        exact ih S_4 (x1 + 1) H locs ls hP hD hS (lv_sub hl [1, 0] rfl) h
  unfold wp_X7_judge at h
  refine lv_iconst (v := (0 : Int32)) hx hb dX7_judge_0 (by decide) ?_
  refine lv_istore_n (lv' := [(1, .int (0 : Int32)), (0, .ref (a 0))]) hx hb dX7_judge_1 rfl hl (by decide) rfl (fun ls hl => ?_)
  obtain ⟨n_6, h⟩ := h
  exact L_2 n_6 S0 (0 : Int32) H locs ls hP hD hS (lv_sub hl [1, 0] rfl) h
/-! X7_loadBy -/
def wp_X7_loadBy_259 (Q : Int32 → St → Prop) (S0 : St) (x1 : Int32) : Prop := wp_X7_passesAll S0 (1 : Int32) (0 : Int32) (fun u_8 => ((¬ (u_8.1 32) = (u_8.1 29)) → (Q (-9 : Int32) u_8)) ∧ (((u_8.1 32) = (u_8.1 29)) → (Q x1 u_8)))
def wp_X7_loadBy_168 (K39 : St → Int32 → Int32 → Prop) (Q : Int32 → St → Prop) (S0 : St) (x1 : Int32) (x2 : Int32) : Prop := ∀ S_20, S_20 = (sI S0 32 x2) → (K39 S_20 x1 (x2 + 1))
def wp_X7_loadBy_196 (K39 : St → Int32 → Int32 → Prop) (Q : Int32 → St → Prop) (S0 : St) (x1 : Int32) (x2 : Int32) (x6 : Int32) (y1 : Int32) (y2 : Int32) (y3 : Int32) : Prop := wp_X7_dances S0 y1 y2 y3 (fun u_26 => ((x6 = 0) → (vp_in x2 6 ∧ (vp_in (u_26.2 30 x2.toNatClampNeg) 8 ∧ (vp_in (u_26.2 30 x2.toNatClampNeg) 8 ∧ (∀ S_28, S_28 = (sA u_26 31 (u_26.2 30 x2.toNatClampNeg).toNatClampNeg ((u_26.2 31 (u_26.2 30 x2.toNatClampNeg).toNatClampNeg) + (1 : Int32))) → (vp_in x2 6 ∧ (vp_in (S_28.2 30 x2.toNatClampNeg) 8 ∧ ((((S_28.2 31 (S_28.2 30 x2.toNatClampNeg).toNatClampNeg) ≤ x1) → (K39 S_28 x1 (x2 + 1))) ∧ ((¬ (S_28.2 31 (S_28.2 30 x2.toNatClampNeg).toNatClampNeg) ≤ x1) → (vp_in x2 6 ∧ (vp_in (S_28.2 30 x2.toNatClampNeg) 8 ∧ (∀ z_31 : Int32, z_31 = (S_28.2 31 (S_28.2 30 x2.toNatClampNeg).toNatClampNeg) → (K39 S_28 z_31 (x2 + 1)))))))))))))) ∧ ((¬ x6 = 0) → (K39 u_26 x1 (x2 + 1))))
def wp_X7_loadBy_176 (K39 : St → Int32 → Int32 → Prop) (Q : Int32 → St → Prop) (S0 : St) (x1 : Int32) (x2 : Int32) (x3 : Int32) (x4 : Int32) (x6 : Int32) : Prop := ((x6 = 0) → (vp_in x2 6 ∧ (wp_X7_loadBy_196 K39 Q S0 x1 x2 x6 x3 x4 (S0.2 30 x2.toNatClampNeg)))) ∧ ((¬ x6 = 0) → (wp_X7_loadBy_196 K39 Q S0 x1 x2 x6 x3 x4 (9 : Int32)))
def wp_X7_loadBy_154 (K39 : St → Int32 → Int32 → Prop) (Q : Int32 → St → Prop) (S0 : St) (x1 : Int32) (x2 : Int32) (x3 : Int32) (x4 : Int32) (x6 : Int32) : Prop := ((x6 = 0) → (wp_X7_loadBy_176 K39 Q S0 x1 x2 x3 x4 x6)) ∧ ((¬ x6 = 0) → (vp_in x2 6 ∧ ((((S0.2 30 x2.toNatClampNeg) ≤ 0) → (wp_X7_loadBy_176 K39 Q S0 x1 x2 x3 x4 x6)) ∧ ((¬ (S0.2 30 x2.toNatClampNeg) ≤ 0) → (wp_X7_loadBy_168 K39 Q S0 x1 x2)))))
def wp_X7_loadBy_126 (K39 : St → Int32 → Int32 → Prop) (Q : Int32 → St → Prop) (S0 : St) (x1 : Int32) (x2 : Int32) (x3 : Int32) (x4 : Int32) (x5 : Int32) (y0 : Int32) : Prop := ((x5 = 0) → (wp_X7_loadBy_168 K39 Q S0 x1 x2)) ∧ ((¬ x5 = 0) → (((¬ y0 = 0) → (wp_X7_loadBy_154 K39 Q S0 x1 x2 x3 x4 y0)) ∧ ((y0 = 0) → (vp_in x2 6 ∧ (wp_X7_canBy S0 x3 x4 (S0.2 30 x2.toNatClampNeg) (fun r_34 u_35 => ((r_34 = 0) → (wp_X7_loadBy_168 K39 Q u_35 x1 x2)) ∧ ((¬ r_34 = 0) → (wp_X7_loadBy_154 K39 Q u_35 x1 x2 x3 x4 y0))))))))
def wp_X7_loadBy_104 (K39 : St → Int32 → Int32 → Prop) (Q : Int32 → St → Prop) (S0 : St) (x1 : Int32) (x2 : Int32) (x3 : Int32) (x4 : Int32) (y0 : Int32) : Prop := ((y0 = 0) → (wp_X7_loadBy_126 K39 Q S0 x1 x2 x3 x4 y0 (0 : Int32))) ∧ ((¬ y0 = 0) → (wp_X7_areCousins S0 x3 x4 (fun r_37 u_38 => ((r_37 = 0) → (wp_X7_loadBy_126 K39 Q u_38 x1 x2 x3 x4 y0 (0 : Int32))) ∧ ((¬ r_37 = 0) → (wp_X7_loadBy_126 K39 Q u_38 x1 x2 x3 x4 y0 (1 : Int32))))))
def wp_X7_loadBy_39 (Q : Int32 → St → Prop) : Nat → St → Int32 → Int32 → Prop
  | 0, _, _, _ => False
  | n + 1, S0, x1, x2 => (((S0.1 29) ≤ x2) → (wp_X7_loadBy_259 Q S0 x1)) ∧ ((¬ (S0.1 29) ≤ x2) → (((¬ (S0.1 32) = (S0.1 29)) → (wp_X7_loadBy_259 Q S0 x1)) ∧ (((S0.1 32) = (S0.1 29)) → (vp_in x2 6 ∧ (∀ z_11 : Int32, z_11 = ((S0.2 27 x2.toNatClampNeg) / (10 : Int32)) → (vp_in x2 6 ∧ (∀ z_13 : Int32, z_13 = ((S0.2 27 x2.toNatClampNeg) - (S0.2 27 x2.toNatClampNeg) / (10 : Int32) * (10 : Int32)) → (wp_X7_areTwo S0 z_11 z_13 (fun r_15 u_16 => ((r_15 = 0) → (wp_X7_loadBy_104 (fun s0 v0 v1 => wp_X7_loadBy_39 Q n s0 v0 v1) Q u_16 x1 x2 z_11 z_13 (0 : Int32))) ∧ ((¬ r_15 = 0) → (wp_X7_mayDance u_16 z_11 z_13 (fun r_40 u_41 => ((r_40 = 0) → (wp_X7_loadBy_104 (fun s0 v0 v1 => wp_X7_loadBy_39 Q n s0 v0 v1) Q u_41 x1 x2 z_11 z_13 (0 : Int32))) ∧ ((¬ r_40 = 0) → (wp_X7_loadBy_104 (fun s0 v0 v1 => wp_X7_loadBy_39 Q n s0 v0 v1) Q u_41 x1 x2 z_11 z_13 (1 : Int32)))))))))))))))
def wp_X7_loadBy_8 (Q : Int32 → St → Prop) : Nat → St → Int32 → Prop
  | 0, _, _ => False
  | n + 1, S0, x1 => (((8 : Int32) ≤ x1) → (∀ S_4, S_4 = (sI S0 32 (S0.1 29)) → (∃ i, wp_X7_loadBy_39 Q i S_4 (0 : Int32) (0 : Int32)))) ∧ ((¬ (8 : Int32) ≤ x1) → (vp_in x1 8 ∧ (∀ S_44, S_44 = (sA S0 31 x1.toNatClampNeg (0 : Int32)) → (wp_X7_loadBy_8 Q n S_44 (x1 + 1)))))
def wp_X7_loadBy (S0 : St) (Q : Int32 → St → Prop) : Prop := wp_X7_passesAll S0 (1 : Int32) (1 : Int32) (fun u_2 => ∃ i, wp_X7_loadBy_8 Q i u_2 (0 : Int32))
abbrev rmX7_loadBy : Room := { frames := 4, cells := 0, slots := 0, locals := 96 }
set_option maxRecDepth 100000 in
set_option maxHeartbeats 4000000 in
theorem c_X7_loadBy (l : Launch) (D : va_G) (k : Nat → ClassId) (a : Nat → Nat) (S0 : St) (sz : Nat) (Q : Int32 → St → Prop) (h : wp_X7_loadBy S0 Q) : Met l yX7_loadBy wsX7_loadBy rmX7_loadBy (cPc D k (wMo k a S0) [.ref (a 0)] sz) (va_Qi (fun (r : Int32) (u : St) => Q r u) (cB D k (va_A (wMo k a S0) sz) (fun u : St => wMo k a u)) (va_A (wMo k a S0) sz)) 0 0 (va_A (wMo k a S0) sz) := by
  refine ct_entry (cc := cX7_loadBy) (maxL := 7) (ret := (some .int)) (Rn := RX7) (Qc := fun A => (va_Qi (fun (r : Int32) (u : St) => Q r u) (cB D k A (fun u : St => wMo k a u)) A)) (by decide) rfl rfl (Nat.le_of_ble_eq_true rfl) ?_
  intro p e s m below meth c hx hb hr hlocks hml hts hown hnw hK A hA H locs hP hD hS ls hl
  have hl : lv_has ls 7 [(0, .ref (a 0))] := hl
  have ln_231 := hts (.fieldLink RX7 231 "WithTheSameOneModel" "rowMany" "I") (by decide +kernel)
  have ln_240 := hts (.fieldLink RX7 240 "WithTheSameOneModel" "failing" "I") (by decide +kernel)
  have ln_58 := hts (.fieldLink RX7 58 "WithTheSameOneModel" "row" "[I") (by decide +kernel)
  have ln_64 := hts (.fieldLink RX7 64 "WithTheSameOneModel" "choice" "[I") (by decide +kernel)
  have ln_67 := hts (.fieldLink RX7 67 "WithTheSameOneModel" "loads" "[I") (by decide +kernel)
  have in_Mo : ∀ w ∈ wsX70, w ∈ wsX7_loadBy := fun _ h => List.mem_cons_of_mem _ (List.mem_append_right _ h)
  have L_259 : ∀ (S0 : St) (x1 : Int32), ∀ (H : Heap) (locs : List Loc) (ls : Array Slot), va_P D vwCl (wMo k a S0) H → va_D A (wMo k a S0) → va_S A s.heap H locs → lv_has ls 7 [(0, .ref (a 0)), (1, .int x1)] → wp_X7_loadBy_259 Q S0 x1 → W p l e rmX7_loadBy s m ([.ref (a 0)] : List Value).toArray below meth c H locs 0 0 (MQ below (va_Qi (fun (r : Int32) (u : St) => Q r u) (cB D k A (fun u : St => wMo k a u)) A) ([.ref (a 0)] : List Value).toArray s 0 0 A) (F0 m 259 ls []) := by
    intro S0 x1 H locs ls hP hD hS hl h
    unfold wp_X7_loadBy_259 at h
    refine lv_aload_n hx hb dX7_loadBy_259 rfl (lv_at hl 0 rfl) ?_
    refine lv_iconst (v := (1 : Int32)) hx hb dX7_loadBy_260 (by decide) ?_
    refine lv_iconst (v := (0 : Int32)) hx hb dX7_loadBy_261 (by decide) ?_
    have hFc := fr_self hD hS hA
    refine gv_v (va_runV (As := [.int (1 : Int32), .int (0 : Int32)]) (rest := []) ⟨hx, hb, hml, hown, hts⟩ (c_X7_passesAll l D k a S0 H.size (1 : Int32) (0 : Int32) _ h) (cwV 2 hts gX7_loadBy_X7_passesAll rfl rfl rfl (by decide +kernel) ⟨Nat.le_of_ble_eq_true rfl, Nat.le_of_ble_eq_true rfl⟩) (gv_preV hK hnw hP hD (ci := 7) rfl 0 rfl) rfl rfl hl.1 rfl (lv_room (Nat.le_of_ble_eq_true rfl)) dX7_loadBy_262 ⟨Nat.zero_le _, Nat.zero_le _⟩) hS hFc (fun u_8 H locs h hP1 hD1 hk1 hS => ?_)
    have hP := hP1
    have hD := hD1.weaken (fun _ _ _ z => hFc _ z)
    refine lv_aload_n hx hb dX7_loadBy_265 rfl (lv_at hl 0 rfl) ?_
    refine va_get (D := D) (ci := 7) (v := .int (u_8.1 32)) (C := RX7) (T := TX7) (N := 33) hx hb hts in_Mo hown hK hP 0 rfl rfl 32 (by decide) ln_240 (fun _ h9 => h9) rfl dX7_loadBy_266 ?_
    refine lv_aload_n hx hb dX7_loadBy_269 rfl (lv_at hl 0 rfl) ?_
    refine va_get (D := D) (ci := 7) (v := .int (u_8.1 29)) (C := RX7) (T := TX7) (N := 33) hx hb hts in_Mo hown hK hP 0 rfl rfl 29 (by decide) ln_231 (fun _ h9 => h9) rfl dX7_loadBy_270 ?_
    refine lv_icmp_ne (tgt := 280) hx hb dX7_loadBy_273 (by decide) (fun c_9 => ?_) (fun c_9 => ?_)
    · have h := h.1 c_9
      refine lv_bipush (v := (-9 : Int32)) hx hb dX7_loadBy_280 (by decide) ?_
      exact W.iret (v := (-9 : Int32)) hx hb hr (fun t ht hW => ⟨⟨(-9 : Int32), u_8, rfl, h, by rw [ht]; exact hP, va_K.moved hW.alike hK, hD⟩, hS.F ht⟩) hS.2.2 dX7_loadBy_282
    · have h := h.2 c_9
      refine lv_iload_n hx hb dX7_loadBy_276 rfl (lv_at hl 1 rfl) ?_
      refine lv_goto (tgt := 282) hx hb dX7_loadBy_277 (by decide) ?_
      exact W.iret (v := x1) hx hb hr (fun t ht hW => ⟨⟨x1, u_8, rfl, h, by rw [ht]; exact hP, va_K.moved hW.alike hK, hD⟩, hS.F ht⟩) hS.2.2 dX7_loadBy_282
  have L_168 : ∀ (K39 : St → Int32 → Int32 → Prop), (∀ (S0 : St) (x1 : Int32) (x2 : Int32), ∀ (H : Heap) (locs : List Loc) (ls : Array Slot), va_P D vwCl (wMo k a S0) H → va_D A (wMo k a S0) → va_S A s.heap H locs → lv_has ls 7 [(0, .ref (a 0)), (1, .int x1), (2, .int x2)] → K39 S0 x1 x2 → W p l e rmX7_loadBy s m ([.ref (a 0)] : List Value).toArray below meth c H locs 0 0 (MQ below (va_Qi (fun (r : Int32) (u : St) => Q r u) (cB D k A (fun u : St => wMo k a u)) A) ([.ref (a 0)] : List Value).toArray s 0 0 A) (F0 m 39 ls [])) → ∀ (S0 : St) (x1 : Int32) (x2 : Int32), ∀ (H : Heap) (locs : List Loc) (ls : Array Slot), va_P D vwCl (wMo k a S0) H → va_D A (wMo k a S0) → va_S A s.heap H locs → lv_has ls 7 [(0, .ref (a 0)), (1, .int x1), (2, .int x2)] → wp_X7_loadBy_168 K39 Q S0 x1 x2 → W p l e rmX7_loadBy s m ([.ref (a 0)] : List Value).toArray below meth c H locs 0 0 (MQ below (va_Qi (fun (r : Int32) (u : St) => Q r u) (cB D k A (fun u : St => wMo k a u)) A) ([.ref (a 0)] : List Value).toArray s 0 0 A) (F0 m 168 ls []) := by
    intro K39 hK39 S0 x1 x2 H locs ls hP hD hS hl h
    unfold wp_X7_loadBy_168 at h
    refine lv_aload_n hx hb dX7_loadBy_168 rfl (lv_at hl 0 rfl) ?_
    refine lv_iload_n hx hb dX7_loadBy_169 rfl (lv_at hl 2 rfl) ?_
    refine va_put (D := D) (ci := 7) (v := .int x2) (ty := .int) (C := RX7) (T := TX7) (N := 33) hx hb hts in_Mo tyX7 tyX7_ok nmX7 hown hK hP hD hS 0 rfl rfl 32 (by decide) ln_240 (fun _ h9 => h9) rfl (by decide +kernel) rfl rfl (Nat.le_of_ble_eq_true rfl) dX7_loadBy_170 (fun H locs hP hD hS => ?_)
    obtain ⟨S_20, e_21⟩ : ∃ z : St, z = (sI S0 32 x2) := ⟨_, rfl⟩
    have h := h S_20 e_21
    have hP : va_P D vwCl (wMo k a S_20) H := by rw [e_21]; exact hP
    have hD : va_D A (wMo k a S_20) := by rw [e_21]; exact hD
    refine lv_goto (tgt := 253) hx hb dX7_loadBy_173 (by decide) ?_
    refine lv_iinc (v := (x2 + 1)) (lv' := [(2, .int (x2 + 1)), (0, .ref (a 0)), (1, .int x1)]) hx hb dX7_loadBy_253 hl (k := 2) rfl rfl (by decide) rfl (fun ls hl => ?_)
    refine lv_goto (tgt := 39) hx hb dX7_loadBy_256 (by decide) ?_
    exact hK39 S_20 x1 (x2 + 1) H locs ls hP hD hS (lv_sub hl [1, 2, 0] rfl) h
  have L_196 : ∀ (K39 : St → Int32 → Int32 → Prop), (∀ (S0 : St) (x1 : Int32) (x2 : Int32), ∀ (H : Heap) (locs : List Loc) (ls : Array Slot), va_P D vwCl (wMo k a S0) H → va_D A (wMo k a S0) → va_S A s.heap H locs → lv_has ls 7 [(0, .ref (a 0)), (1, .int x1), (2, .int x2)] → K39 S0 x1 x2 → W p l e rmX7_loadBy s m ([.ref (a 0)] : List Value).toArray below meth c H locs 0 0 (MQ below (va_Qi (fun (r : Int32) (u : St) => Q r u) (cB D k A (fun u : St => wMo k a u)) A) ([.ref (a 0)] : List Value).toArray s 0 0 A) (F0 m 39 ls [])) → ∀ (S0 : St) (x1 : Int32) (x2 : Int32) (x6 : Int32) (y1 : Int32) (y2 : Int32) (y3 : Int32), ∀ (H : Heap) (locs : List Loc) (ls : Array Slot), va_P D vwCl (wMo k a S0) H → va_D A (wMo k a S0) → va_S A s.heap H locs → lv_has ls 7 [(0, .ref (a 0)), (1, .int x1), (2, .int x2), (6, .int x6)] → wp_X7_loadBy_196 K39 Q S0 x1 x2 x6 y1 y2 y3 → W p l e rmX7_loadBy s m ([.ref (a 0)] : List Value).toArray below meth c H locs 0 0 (MQ below (va_Qi (fun (r : Int32) (u : St) => Q r u) (cB D k A (fun u : St => wMo k a u)) A) ([.ref (a 0)] : List Value).toArray s 0 0 A) (F0 m 196 ls [.int y3, .int y2, .int y1, .ref (a 0)]) := by
    intro K39 hK39 S0 x1 x2 x6 y1 y2 y3 H locs ls hP hD hS hl h
    unfold wp_X7_loadBy_196 at h
    have hFc := fr_self hD hS hA
    refine gv_v (va_runV (As := [.int y1, .int y2, .int y3]) (rest := []) ⟨hx, hb, hml, hown, hts⟩ (c_X7_dances l D k a S0 H.size y1 y2 y3 _ h) (cwV 3 hts gX7_loadBy_X7_dances rfl rfl rfl (by decide +kernel) ⟨Nat.le_of_ble_eq_true rfl, Nat.le_of_ble_eq_true rfl⟩) (gv_preV hK hnw hP hD (ci := 7) rfl 0 rfl) rfl rfl hl.1 rfl (lv_room (Nat.le_of_ble_eq_true rfl)) dX7_loadBy_196 ⟨Nat.zero_le _, Nat.zero_le _⟩) hS hFc (fun u_26 H locs h hP1 hD1 hk1 hS => ?_)
    have hP := hP1
    have hD := hD1.weaken (fun _ _ _ z => hFc _ z)
    refine lv_iload hx hb dX7_loadBy_199 (lv_at hl 3 rfl) ?_
    refine lv_if_eq (tgt := 207) hx hb dX7_loadBy_201 (by decide) (fun c_27 => ?_) (fun c_27 => ?_)
    · have h := h.1 c_27
      refine lv_aload_n hx hb dX7_loadBy_207 rfl (lv_at hl 0 rfl) ?_
      refine va_get (D := D) (ci := 7) (v := .ref (a 20)) (C := RX7) (T := TX7) (N := 33) hx hb hts in_Mo hown hK hP 0 rfl rfl 31 (by decide) ln_67 (fun _ h9 => h9) rfl dX7_loadBy_208 ?_
      refine lv_aload_n hx hb dX7_loadBy_211 rfl (lv_at hl 0 rfl) ?_
      refine va_get (D := D) (ci := 7) (v := .ref (a 19)) (C := RX7) (T := TX7) (N := 33) hx hb hts in_Mo hown hK hP 0 rfl rfl 30 (by decide) ln_64 (fun _ h9 => h9) rfl dX7_loadBy_212 ?_
      refine lv_iload_n hx hb dX7_loadBy_215 rfl (lv_at hl 2 rfl) ?_
      refine va_iald hx hb hK hP 19 0 rfl rfl h.1 dX7_loadBy_216 ?_
      have h := h.2
      refine lv_dup2_11 hx hb dX7_loadBy_217 rfl rfl ?_
      refine va_iald hx hb hK hP 20 0 rfl rfl h.1 dX7_loadBy_218 ?_
      have h := h.2
      refine lv_iconst (v := (1 : Int32)) hx hb dX7_loadBy_219 (by decide) ?_
      refine lv_iadd hx hb dX7_loadBy_220 ?_
      refine va_iast hx hb hK hP hD hS 20 0 rfl rfl h.1 dX7_loadBy_221 (fun H locs hP hD hS => ?_)
      have h := h.2
      obtain ⟨S_28, e_29⟩ : ∃ z : St, z = (sA u_26 31 (u_26.2 30 x2.toNatClampNeg).toNatClampNeg ((u_26.2 31 (u_26.2 30 x2.toNatClampNeg).toNatClampNeg) + (1 : Int32))) := ⟨_, rfl⟩
      have h := h S_28 e_29
      have hP : va_P D vwCl (wMo k a S_28) H := by rw [e_29]; exact hP
      have hD : va_D A (wMo k a S_28) := by rw [e_29]; exact hD
      refine lv_aload_n hx hb dX7_loadBy_222 rfl (lv_at hl 0 rfl) ?_
      refine va_get (D := D) (ci := 7) (v := .ref (a 20)) (C := RX7) (T := TX7) (N := 33) hx hb hts in_Mo hown hK hP 0 rfl rfl 31 (by decide) ln_67 (fun _ h9 => h9) rfl dX7_loadBy_223 ?_
      refine lv_aload_n hx hb dX7_loadBy_226 rfl (lv_at hl 0 rfl) ?_
      refine va_get (D := D) (ci := 7) (v := .ref (a 19)) (C := RX7) (T := TX7) (N := 33) hx hb hts in_Mo hown hK hP 0 rfl rfl 30 (by decide) ln_64 (fun _ h9 => h9) rfl dX7_loadBy_227 ?_
      refine lv_iload_n hx hb dX7_loadBy_230 rfl (lv_at hl 2 rfl) ?_
      refine va_iald hx hb hK hP 19 0 rfl rfl h.1 dX7_loadBy_231 ?_
      have h := h.2
      refine va_iald hx hb hK hP 20 0 rfl rfl h.1 dX7_loadBy_232 ?_
      have h := h.2
      refine lv_iload_n hx hb dX7_loadBy_233 rfl (lv_at hl 1 rfl) ?_
      refine lv_icmp_le (tgt := 251) hx hb dX7_loadBy_234 (by decide) (fun c_30 => ?_) (fun c_30 => ?_)
      · have h := h.1 c_30
        refine lv_iload_n hx hb dX7_loadBy_251 rfl (lv_at hl 1 rfl) ?_
        refine lv_istore_n (lv' := [(1, .int x1), (0, .ref (a 0)), (2, .int x2), (6, .int x6)]) hx hb dX7_loadBy_252 rfl hl (by decide) rfl (fun ls hl => ?_)
        refine lv_iinc (v := (x2 + 1)) (lv' := [(2, .int (x2 + 1)), (1, .int x1), (0, .ref (a 0)), (6, .int x6)]) hx hb dX7_loadBy_253 hl (k := 2) rfl rfl (by decide) rfl (fun ls hl => ?_)
        refine lv_goto (tgt := 39) hx hb dX7_loadBy_256 (by decide) ?_
        exact hK39 S_28 x1 (x2 + 1) H locs ls hP hD hS (lv_sub hl [2, 1, 0] rfl) h
      · have h := h.2 c_30
        refine lv_aload_n hx hb dX7_loadBy_237 rfl (lv_at hl 0 rfl) ?_
        refine va_get (D := D) (ci := 7) (v := .ref (a 20)) (C := RX7) (T := TX7) (N := 33) hx hb hts in_Mo hown hK hP 0 rfl rfl 31 (by decide) ln_67 (fun _ h9 => h9) rfl dX7_loadBy_238 ?_
        refine lv_aload_n hx hb dX7_loadBy_241 rfl (lv_at hl 0 rfl) ?_
        refine va_get (D := D) (ci := 7) (v := .ref (a 19)) (C := RX7) (T := TX7) (N := 33) hx hb hts in_Mo hown hK hP 0 rfl rfl 30 (by decide) ln_64 (fun _ h9 => h9) rfl dX7_loadBy_242 ?_
        refine lv_iload_n hx hb dX7_loadBy_245 rfl (lv_at hl 2 rfl) ?_
        refine va_iald hx hb hK hP 19 0 rfl rfl h.1 dX7_loadBy_246 ?_
        have h := h.2
        refine va_iald hx hb hK hP 20 0 rfl rfl h.1 dX7_loadBy_247 ?_
        have h := h.2
        refine lv_goto (tgt := 252) hx hb dX7_loadBy_248 (by decide) ?_
        refine lv_topi (fun z_31 e_32 => ?_)
        have h := h z_31 e_32
        refine lv_istore_n (lv' := [(1, .int z_31), (0, .ref (a 0)), (2, .int x2), (6, .int x6)]) hx hb dX7_loadBy_252 rfl hl (by decide) rfl (fun ls hl => ?_)
        refine lv_iinc (v := (x2 + 1)) (lv' := [(2, .int (x2 + 1)), (1, .int z_31), (0, .ref (a 0)), (6, .int x6)]) hx hb dX7_loadBy_253 hl (k := 2) rfl rfl (by decide) rfl (fun ls hl => ?_)
        refine lv_goto (tgt := 39) hx hb dX7_loadBy_256 (by decide) ?_
        exact hK39 S_28 z_31 (x2 + 1) H locs ls hP hD hS (lv_sub hl [2, 1, 0] rfl) h
    · have h := h.2 c_27
      refine lv_goto (tgt := 253) hx hb dX7_loadBy_204 (by decide) ?_
      refine lv_iinc (v := (x2 + 1)) (lv' := [(2, .int (x2 + 1)), (0, .ref (a 0)), (1, .int x1), (6, .int x6)]) hx hb dX7_loadBy_253 hl (k := 2) rfl rfl (by decide) rfl (fun ls hl => ?_)
      refine lv_goto (tgt := 39) hx hb dX7_loadBy_256 (by decide) ?_
      exact hK39 u_26 x1 (x2 + 1) H locs ls hP hD hS (lv_sub hl [1, 2, 0] rfl) h
  have L_176 : ∀ (K39 : St → Int32 → Int32 → Prop), (∀ (S0 : St) (x1 : Int32) (x2 : Int32), ∀ (H : Heap) (locs : List Loc) (ls : Array Slot), va_P D vwCl (wMo k a S0) H → va_D A (wMo k a S0) → va_S A s.heap H locs → lv_has ls 7 [(0, .ref (a 0)), (1, .int x1), (2, .int x2)] → K39 S0 x1 x2 → W p l e rmX7_loadBy s m ([.ref (a 0)] : List Value).toArray below meth c H locs 0 0 (MQ below (va_Qi (fun (r : Int32) (u : St) => Q r u) (cB D k A (fun u : St => wMo k a u)) A) ([.ref (a 0)] : List Value).toArray s 0 0 A) (F0 m 39 ls [])) → ∀ (S0 : St) (x1 : Int32) (x2 : Int32) (x3 : Int32) (x4 : Int32) (x6 : Int32), ∀ (H : Heap) (locs : List Loc) (ls : Array Slot), va_P D vwCl (wMo k a S0) H → va_D A (wMo k a S0) → va_S A s.heap H locs → lv_has ls 7 [(0, .ref (a 0)), (1, .int x1), (2, .int x2), (3, .int x3), (4, .int x4), (6, .int x6)] → wp_X7_loadBy_176 K39 Q S0 x1 x2 x3 x4 x6 → W p l e rmX7_loadBy s m ([.ref (a 0)] : List Value).toArray below meth c H locs 0 0 (MQ below (va_Qi (fun (r : Int32) (u : St) => Q r u) (cB D k A (fun u : St => wMo k a u)) A) ([.ref (a 0)] : List Value).toArray s 0 0 A) (F0 m 176 ls []) := by
    intro K39 hK39 S0 x1 x2 x3 x4 x6 H locs ls hP hD hS hl h
    unfold wp_X7_loadBy_176 at h
    refine lv_aload_n hx hb dX7_loadBy_176 rfl (lv_at hl 0 rfl) ?_
    refine lv_iload_n hx hb dX7_loadBy_177 rfl (lv_at hl 3 rfl) ?_
    refine lv_iload hx hb dX7_loadBy_178 (lv_at hl 4 rfl) ?_
    refine lv_iload hx hb dX7_loadBy_180 (lv_at hl 5 rfl) ?_
    refine lv_if_eq (tgt := 190) hx hb dX7_loadBy_182 (by decide) (fun c_24 => ?_) (fun c_24 => ?_)
    · have h := h.1 c_24
      refine lv_aload_n hx hb dX7_loadBy_190 rfl (lv_at hl 0 rfl) ?_
      refine va_get (D := D) (ci := 7) (v := .ref (a 19)) (C := RX7) (T := TX7) (N := 33) hx hb hts in_Mo hown hK hP 0 rfl rfl 30 (by decide) ln_64 (fun _ h9 => h9) rfl dX7_loadBy_191 ?_
      refine lv_iload_n hx hb dX7_loadBy_194 rfl (lv_at hl 2 rfl) ?_
      refine va_iald hx hb hK hP 19 0 rfl rfl h.1 dX7_loadBy_195 ?_
      have h := h.2
      exact L_196 K39 hK39 S0 x1 x2 x6 x3 x4 (S0.2 30 x2.toNatClampNeg) H locs ls hP hD hS (lv_sub hl [0, 1, 2, 5] rfl) h
    · have h := h.2 c_24
      refine lv_bipush (v := (9 : Int32)) hx hb dX7_loadBy_185 (by decide) ?_
      refine lv_goto (tgt := 196) hx hb dX7_loadBy_187 (by decide) ?_
      exact L_196 K39 hK39 S0 x1 x2 x6 x3 x4 (9 : Int32) H locs ls hP hD hS (lv_sub hl [0, 1, 2, 5] rfl) h
  have L_154 : ∀ (K39 : St → Int32 → Int32 → Prop), (∀ (S0 : St) (x1 : Int32) (x2 : Int32), ∀ (H : Heap) (locs : List Loc) (ls : Array Slot), va_P D vwCl (wMo k a S0) H → va_D A (wMo k a S0) → va_S A s.heap H locs → lv_has ls 7 [(0, .ref (a 0)), (1, .int x1), (2, .int x2)] → K39 S0 x1 x2 → W p l e rmX7_loadBy s m ([.ref (a 0)] : List Value).toArray below meth c H locs 0 0 (MQ below (va_Qi (fun (r : Int32) (u : St) => Q r u) (cB D k A (fun u : St => wMo k a u)) A) ([.ref (a 0)] : List Value).toArray s 0 0 A) (F0 m 39 ls [])) → ∀ (S0 : St) (x1 : Int32) (x2 : Int32) (x3 : Int32) (x4 : Int32) (x6 : Int32), ∀ (H : Heap) (locs : List Loc) (ls : Array Slot), va_P D vwCl (wMo k a S0) H → va_D A (wMo k a S0) → va_S A s.heap H locs → lv_has ls 7 [(0, .ref (a 0)), (1, .int x1), (2, .int x2), (3, .int x3), (4, .int x4), (6, .int x6)] → wp_X7_loadBy_154 K39 Q S0 x1 x2 x3 x4 x6 → W p l e rmX7_loadBy s m ([.ref (a 0)] : List Value).toArray below meth c H locs 0 0 (MQ below (va_Qi (fun (r : Int32) (u : St) => Q r u) (cB D k A (fun u : St => wMo k a u)) A) ([.ref (a 0)] : List Value).toArray s 0 0 A) (F0 m 154 ls []) := by
    intro K39 hK39 S0 x1 x2 x3 x4 x6 H locs ls hP hD hS hl h
    unfold wp_X7_loadBy_154 at h
    refine lv_iload hx hb dX7_loadBy_154 (lv_at hl 5 rfl) ?_
    refine lv_if_eq (tgt := 176) hx hb dX7_loadBy_156 (by decide) (fun c_23 => ?_) (fun c_23 => ?_)
    · have h := h.1 c_23
      exact L_176 K39 hK39 S0 x1 x2 x3 x4 x6 H locs ls hP hD hS (lv_sub hl [0, 1, 2, 3, 4, 5] rfl) h
    · have h := h.2 c_23
      refine lv_aload_n hx hb dX7_loadBy_159 rfl (lv_at hl 0 rfl) ?_
      refine va_get (D := D) (ci := 7) (v := .ref (a 19)) (C := RX7) (T := TX7) (N := 33) hx hb hts in_Mo hown hK hP 0 rfl rfl 30 (by decide) ln_64 (fun _ h9 => h9) rfl dX7_loadBy_160 ?_
      refine lv_iload_n hx hb dX7_loadBy_163 rfl (lv_at hl 2 rfl) ?_
      refine va_iald hx hb hK hP 19 0 rfl rfl h.1 dX7_loadBy_164 ?_
      have h := h.2
      refine lv_if_le (tgt := 176) hx hb dX7_loadBy_165 (by decide) (fun c_33 => ?_) (fun c_33 => ?_)
      · have h := h.1 c_33
        exact L_176 K39 hK39 S0 x1 x2 x3 x4 x6 H locs ls hP hD hS (lv_sub hl [0, 1, 2, 3, 4, 5] rfl) h
      · have h := h.2 c_33
        exact L_168 K39 hK39 S0 x1 x2 H locs ls hP hD hS (lv_sub hl [0, 1, 2] rfl) h
  have L_126 : ∀ (K39 : St → Int32 → Int32 → Prop), (∀ (S0 : St) (x1 : Int32) (x2 : Int32), ∀ (H : Heap) (locs : List Loc) (ls : Array Slot), va_P D vwCl (wMo k a S0) H → va_D A (wMo k a S0) → va_S A s.heap H locs → lv_has ls 7 [(0, .ref (a 0)), (1, .int x1), (2, .int x2)] → K39 S0 x1 x2 → W p l e rmX7_loadBy s m ([.ref (a 0)] : List Value).toArray below meth c H locs 0 0 (MQ below (va_Qi (fun (r : Int32) (u : St) => Q r u) (cB D k A (fun u : St => wMo k a u)) A) ([.ref (a 0)] : List Value).toArray s 0 0 A) (F0 m 39 ls [])) → ∀ (S0 : St) (x1 : Int32) (x2 : Int32) (x3 : Int32) (x4 : Int32) (x5 : Int32) (y0 : Int32), ∀ (H : Heap) (locs : List Loc) (ls : Array Slot), va_P D vwCl (wMo k a S0) H → va_D A (wMo k a S0) → va_S A s.heap H locs → lv_has ls 7 [(0, .ref (a 0)), (1, .int x1), (2, .int x2), (3, .int x3), (4, .int x4), (5, .int x5)] → wp_X7_loadBy_126 K39 Q S0 x1 x2 x3 x4 x5 y0 → W p l e rmX7_loadBy s m ([.ref (a 0)] : List Value).toArray below meth c H locs 0 0 (MQ below (va_Qi (fun (r : Int32) (u : St) => Q r u) (cB D k A (fun u : St => wMo k a u)) A) ([.ref (a 0)] : List Value).toArray s 0 0 A) (F0 m 126 ls [.int y0]) := by
    intro K39 hK39 S0 x1 x2 x3 x4 x5 y0 H locs ls hP hD hS hl h
    unfold wp_X7_loadBy_126 at h
    refine lv_istore (lv' := [(6, .int y0), (0, .ref (a 0)), (1, .int x1), (2, .int x2), (3, .int x3), (4, .int x4), (5, .int x5)]) hx hb dX7_loadBy_126 hl (by decide) rfl (fun ls hl => ?_)
    refine lv_iload hx hb dX7_loadBy_128 (lv_at hl 6 rfl) ?_
    refine lv_if_eq (tgt := 168) hx hb dX7_loadBy_130 (by decide) (fun c_19 => ?_) (fun c_19 => ?_)
    · have h := h.1 c_19
      exact L_168 K39 hK39 S0 x1 x2 H locs ls hP hD hS (lv_sub hl [1, 2, 3] rfl) h
    · have h := h.2 c_19
      refine lv_iload hx hb dX7_loadBy_133 (lv_at hl 0 rfl) ?_
      refine lv_if_ne (tgt := 154) hx hb dX7_loadBy_135 (by decide) (fun c_22 => ?_) (fun c_22 => ?_)
      · have h := h.1 c_22
        exact L_154 K39 hK39 S0 x1 x2 x3 x4 y0 H locs ls hP hD hS (lv_sub hl [1, 2, 3, 4, 5, 0] rfl) h
      · have h := h.2 c_22
        refine lv_aload_n hx hb dX7_loadBy_138 rfl (lv_at hl 1 rfl) ?_
        refine lv_iload_n hx hb dX7_loadBy_139 rfl (lv_at hl 4 rfl) ?_
        refine lv_iload hx hb dX7_loadBy_140 (lv_at hl 5 rfl) ?_
        refine lv_aload_n hx hb dX7_loadBy_142 rfl (lv_at hl 1 rfl) ?_
        refine va_get (D := D) (ci := 7) (v := .ref (a 19)) (C := RX7) (T := TX7) (N := 33) hx hb hts in_Mo hown hK hP 0 rfl rfl 30 (by decide) ln_64 (fun _ h9 => h9) rfl dX7_loadBy_143 ?_
        refine lv_iload_n hx hb dX7_loadBy_146 rfl (lv_at hl 3 rfl) ?_
        refine va_iald hx hb hK hP 19 0 rfl rfl h.1 dX7_loadBy_147 ?_
        have h := h.2
        have hFc := fr_self hD hS hA
        refine gv_i (va_runV (As := [.int x3, .int x4, .int (S0.2 30 x2.toNatClampNeg)]) (rest := []) ⟨hx, hb, hml, hown, hts⟩ (c_X7_canBy l D k a S0 H.size x3 x4 (S0.2 30 x2.toNatClampNeg) _ h) (cwV 3 hts gX7_loadBy_X7_canBy rfl rfl rfl (by decide +kernel) ⟨Nat.le_of_ble_eq_true rfl, Nat.le_of_ble_eq_true rfl⟩) (gv_preV hK hnw hP hD (ci := 7) rfl 0 rfl) rfl rfl hl.1 rfl (lv_room (Nat.le_of_ble_eq_true rfl)) dX7_loadBy_148 ⟨Nat.zero_le _, Nat.zero_le _⟩) hS hFc (fun r_34 u_35 H locs h hP1 hD1 hk1 hS => ?_)
        have hP := hP1
        have hD := hD1.weaken (fun _ _ _ z => hFc _ z)
        refine lv_if_eq (tgt := 168) hx hb dX7_loadBy_151 (by decide) (fun c_36 => ?_) (fun c_36 => ?_)
        · have h := h.1 c_36
          exact L_168 K39 hK39 u_35 x1 x2 H locs ls hP hD hS (lv_sub hl [1, 2, 3] rfl) h
        · have h := h.2 c_36
          exact L_154 K39 hK39 u_35 x1 x2 x3 x4 y0 H locs ls hP hD hS (lv_sub hl [1, 2, 3, 4, 5, 0] rfl) h
  have L_104 : ∀ (K39 : St → Int32 → Int32 → Prop), (∀ (S0 : St) (x1 : Int32) (x2 : Int32), ∀ (H : Heap) (locs : List Loc) (ls : Array Slot), va_P D vwCl (wMo k a S0) H → va_D A (wMo k a S0) → va_S A s.heap H locs → lv_has ls 7 [(0, .ref (a 0)), (1, .int x1), (2, .int x2)] → K39 S0 x1 x2 → W p l e rmX7_loadBy s m ([.ref (a 0)] : List Value).toArray below meth c H locs 0 0 (MQ below (va_Qi (fun (r : Int32) (u : St) => Q r u) (cB D k A (fun u : St => wMo k a u)) A) ([.ref (a 0)] : List Value).toArray s 0 0 A) (F0 m 39 ls [])) → ∀ (S0 : St) (x1 : Int32) (x2 : Int32) (x3 : Int32) (x4 : Int32) (y0 : Int32), ∀ (H : Heap) (locs : List Loc) (ls : Array Slot), va_P D vwCl (wMo k a S0) H → va_D A (wMo k a S0) → va_S A s.heap H locs → lv_has ls 7 [(0, .ref (a 0)), (1, .int x1), (2, .int x2), (3, .int x3), (4, .int x4)] → wp_X7_loadBy_104 K39 Q S0 x1 x2 x3 x4 y0 → W p l e rmX7_loadBy s m ([.ref (a 0)] : List Value).toArray below meth c H locs 0 0 (MQ below (va_Qi (fun (r : Int32) (u : St) => Q r u) (cB D k A (fun u : St => wMo k a u)) A) ([.ref (a 0)] : List Value).toArray s 0 0 A) (F0 m 104 ls [.int y0]) := by
    intro K39 hK39 S0 x1 x2 x3 x4 y0 H locs ls hP hD hS hl h
    unfold wp_X7_loadBy_104 at h
    refine lv_istore (lv' := [(5, .int y0), (0, .ref (a 0)), (1, .int x1), (2, .int x2), (3, .int x3), (4, .int x4)]) hx hb dX7_loadBy_104 hl (by decide) rfl (fun ls hl => ?_)
    refine lv_iload hx hb dX7_loadBy_106 (lv_at hl 0 rfl) ?_
    refine lv_if_eq (tgt := 125) hx hb dX7_loadBy_108 (by decide) (fun c_18 => ?_) (fun c_18 => ?_)
    · have h := h.1 c_18
      refine lv_iconst (v := (0 : Int32)) hx hb dX7_loadBy_125 (by decide) ?_
      exact L_126 K39 hK39 S0 x1 x2 x3 x4 y0 (0 : Int32) H locs ls hP hD hS (lv_sub hl [1, 2, 3, 4, 5, 0] rfl) h
    · have h := h.2 c_18
      refine lv_aload_n hx hb dX7_loadBy_111 rfl (lv_at hl 1 rfl) ?_
      refine lv_iload_n hx hb dX7_loadBy_112 rfl (lv_at hl 4 rfl) ?_
      refine lv_iload hx hb dX7_loadBy_113 (lv_at hl 5 rfl) ?_
      have hFc := fr_self hD hS hA
      refine gv_i (va_runV (As := [.int x3, .int x4]) (rest := []) ⟨hx, hb, hml, hown, hts⟩ (c_X7_areCousins l D k a S0 H.size x3 x4 _ h) (cwV 2 hts gX7_loadBy_X7_areCousins rfl rfl rfl (by decide +kernel) ⟨Nat.le_of_ble_eq_true rfl, Nat.le_of_ble_eq_true rfl⟩) (gv_preV hK hnw hP hD (ci := 7) rfl 0 rfl) rfl rfl hl.1 rfl (lv_room (Nat.le_of_ble_eq_true rfl)) dX7_loadBy_115 ⟨Nat.zero_le _, Nat.zero_le _⟩) hS hFc (fun r_37 u_38 H locs h hP1 hD1 hk1 hS => ?_)
      have hP := hP1
      have hD := hD1.weaken (fun _ _ _ z => hFc _ z)
      refine lv_if_eq (tgt := 125) hx hb dX7_loadBy_118 (by decide) (fun c_39 => ?_) (fun c_39 => ?_)
      · have h := h.1 c_39
        refine lv_iconst (v := (0 : Int32)) hx hb dX7_loadBy_125 (by decide) ?_
        exact L_126 K39 hK39 u_38 x1 x2 x3 x4 y0 (0 : Int32) H locs ls hP hD hS (lv_sub hl [1, 2, 3, 4, 5, 0] rfl) h
      · have h := h.2 c_39
        refine lv_iconst (v := (1 : Int32)) hx hb dX7_loadBy_121 (by decide) ?_
        refine lv_goto (tgt := 126) hx hb dX7_loadBy_122 (by decide) ?_
        exact L_126 K39 hK39 u_38 x1 x2 x3 x4 y0 (1 : Int32) H locs ls hP hD hS (lv_sub hl [1, 2, 3, 4, 5, 0] rfl) h
  have L_39 : ∀ (n : Nat), ∀ (S0 : St) (x1 : Int32) (x2 : Int32), ∀ (H : Heap) (locs : List Loc) (ls : Array Slot), va_P D vwCl (wMo k a S0) H → va_D A (wMo k a S0) → va_S A s.heap H locs → lv_has ls 7 [(0, .ref (a 0)), (1, .int x1), (2, .int x2)] → wp_X7_loadBy_39 Q n S0 x1 x2 → W p l e rmX7_loadBy s m ([.ref (a 0)] : List Value).toArray below meth c H locs 0 0 (MQ below (va_Qi (fun (r : Int32) (u : St) => Q r u) (cB D k A (fun u : St => wMo k a u)) A) ([.ref (a 0)] : List Value).toArray s 0 0 A) (F0 m 39 ls []) := by
    intro n
    induction n with
    | zero => intro S0 x1 x2 H locs ls hP hD hS hl h; exact absurd h (by unfold wp_X7_loadBy_39; exact id)
    | succ n ih =>
      intro S0 x1 x2 H locs ls hP hD hS hl h
      unfold wp_X7_loadBy_39 at h
      refine lv_iload_n hx hb dX7_loadBy_39 rfl (lv_at hl 2 rfl) ?_
      refine lv_aload_n hx hb dX7_loadBy_40 rfl (lv_at hl 0 rfl) ?_
      refine va_get (D := D) (ci := 7) (v := .int (S0.1 29)) (C := RX7) (T := TX7) (N := 33) hx hb hts in_Mo hown hK hP 0 rfl rfl 29 (by decide) ln_231 (fun _ h9 => h9) rfl dX7_loadBy_41 ?_
      refine lv_icmp_ge (tgt := 259) hx hb dX7_loadBy_44 (by decide) (fun c_6 => ?_) (fun c_6 => ?_)
      · have h := h.1 c_6
        exact L_259 S0 x1 H locs ls hP hD hS (lv_sub hl [0, 1] rfl) h
      · have h := h.2 c_6
        refine lv_aload_n hx hb dX7_loadBy_47 rfl (lv_at hl 0 rfl) ?_
        refine va_get (D := D) (ci := 7) (v := .int (S0.1 32)) (C := RX7) (T := TX7) (N := 33) hx hb hts in_Mo hown hK hP 0 rfl rfl 32 (by decide) ln_240 (fun _ h9 => h9) rfl dX7_loadBy_48 ?_
        refine lv_aload_n hx hb dX7_loadBy_51 rfl (lv_at hl 0 rfl) ?_
        refine va_get (D := D) (ci := 7) (v := .int (S0.1 29)) (C := RX7) (T := TX7) (N := 33) hx hb hts in_Mo hown hK hP 0 rfl rfl 29 (by decide) ln_231 (fun _ h9 => h9) rfl dX7_loadBy_52 ?_
        refine lv_icmp_ne (tgt := 259) hx hb dX7_loadBy_55 (by decide) (fun c_10 => ?_) (fun c_10 => ?_)
        · have h := h.1 c_10
          exact L_259 S0 x1 H locs ls hP hD hS (lv_sub hl [0, 1] rfl) h
        · have h := h.2 c_10
          refine lv_aload_n hx hb dX7_loadBy_58 rfl (lv_at hl 0 rfl) ?_
          refine va_get (D := D) (ci := 7) (v := .ref (a 17)) (C := RX7) (T := TX7) (N := 33) hx hb hts in_Mo hown hK hP 0 rfl rfl 27 (by decide) ln_58 (fun _ h9 => h9) rfl dX7_loadBy_59 ?_
          refine lv_iload_n hx hb dX7_loadBy_62 rfl (lv_at hl 2 rfl) ?_
          refine va_iald hx hb hK hP 17 0 rfl rfl h.1 dX7_loadBy_63 ?_
          have h := h.2
          refine lv_bipush (v := (10 : Int32)) hx hb dX7_loadBy_64 (by decide) ?_
          refine lv_idiv hx hb dX7_loadBy_66 (by decide) ?_
          refine lv_topi (fun z_11 e_12 => ?_)
          have h := h z_11 e_12
          refine lv_istore_n (lv' := [(3, .int z_11), (0, .ref (a 0)), (1, .int x1), (2, .int x2)]) hx hb dX7_loadBy_67 rfl hl (by decide) rfl (fun ls hl => ?_)
          refine lv_aload_n hx hb dX7_loadBy_68 rfl (lv_at hl 1 rfl) ?_
          refine va_get (D := D) (ci := 7) (v := .ref (a 17)) (C := RX7) (T := TX7) (N := 33) hx hb hts in_Mo hown hK hP 0 rfl rfl 27 (by decide) ln_58 (fun _ h9 => h9) rfl dX7_loadBy_69 ?_
          refine lv_iload_n hx hb dX7_loadBy_72 rfl (lv_at hl 3 rfl) ?_
          refine va_iald hx hb hK hP 17 0 rfl rfl h.1 dX7_loadBy_73 ?_
          have h := h.2
          refine lv_bipush (v := (10 : Int32)) hx hb dX7_loadBy_74 (by decide) ?_
          refine lv_irem hx hb dX7_loadBy_76 (by decide) ?_
          refine lv_topi (fun z_13 e_14 => ?_)
          have h := h z_13 e_14
          refine lv_istore (lv' := [(4, .int z_13), (3, .int z_11), (0, .ref (a 0)), (1, .int x1), (2, .int x2)]) hx hb dX7_loadBy_77 hl (by decide) rfl (fun ls hl => ?_)
          refine lv_aload_n hx hb dX7_loadBy_79 rfl (lv_at hl 2 rfl) ?_
          refine lv_iload_n hx hb dX7_loadBy_80 rfl (lv_at hl 1 rfl) ?_
          refine lv_iload hx hb dX7_loadBy_81 (lv_at hl 0 rfl) ?_
          have hFc := fr_self hD hS hA
          refine gv_i (va_runV (As := [.int z_11, .int z_13]) (rest := []) ⟨hx, hb, hml, hown, hts⟩ (c_X7_areTwo l D k a S0 H.size z_11 z_13 _ h) (cwV 2 hts gX7_loadBy_X7_areTwo rfl rfl rfl (by decide +kernel) ⟨Nat.le_of_ble_eq_true rfl, Nat.le_of_ble_eq_true rfl⟩) (gv_preV hK hnw hP hD (ci := 7) rfl 0 rfl) rfl rfl hl.1 rfl (lv_room (Nat.le_of_ble_eq_true rfl)) dX7_loadBy_83 ⟨Nat.zero_le _, Nat.zero_le _⟩) hS hFc (fun r_15 u_16 H locs h hP1 hD1 hk1 hS => ?_)
          have hP := hP1
          have hD := hD1.weaken (fun _ _ _ z => hFc _ z)
          refine lv_if_eq (tgt := 103) hx hb dX7_loadBy_86 (by decide) (fun c_17 => ?_) (fun c_17 => ?_)
          · have h := h.1 c_17
            refine lv_iconst (v := (0 : Int32)) hx hb dX7_loadBy_103 (by decide) ?_
            exact L_104 (fun s0 v0 v1 => wp_X7_loadBy_39 Q n s0 v0 v1) ih u_16 x1 x2 z_11 z_13 (0 : Int32) H locs ls hP hD hS (lv_sub hl [2, 3, 4, 1, 0] rfl) h
          · have h := h.2 c_17
            refine lv_aload_n hx hb dX7_loadBy_89 rfl (lv_at hl 2 rfl) ?_
            refine lv_iload_n hx hb dX7_loadBy_90 rfl (lv_at hl 1 rfl) ?_
            refine lv_iload hx hb dX7_loadBy_91 (lv_at hl 0 rfl) ?_
            have hFc := fr_self hD hS hA
            refine gv_i (va_runV (As := [.int z_11, .int z_13]) (rest := []) ⟨hx, hb, hml, hown, hts⟩ (c_X7_mayDance l D k a u_16 H.size z_11 z_13 _ h) (cwV 2 hts gX7_loadBy_X7_mayDance rfl rfl rfl (by decide +kernel) ⟨Nat.le_of_ble_eq_true rfl, Nat.le_of_ble_eq_true rfl⟩) (gv_preV hK hnw hP hD (ci := 7) rfl 0 rfl) rfl rfl hl.1 rfl (lv_room (Nat.le_of_ble_eq_true rfl)) dX7_loadBy_93 ⟨Nat.zero_le _, Nat.zero_le _⟩) hS hFc (fun r_40 u_41 H locs h hP1 hD1 hk1 hS => ?_)
            have hP := hP1
            have hD := hD1.weaken (fun _ _ _ z => hFc _ z)
            refine lv_if_eq (tgt := 103) hx hb dX7_loadBy_96 (by decide) (fun c_42 => ?_) (fun c_42 => ?_)
            · have h := h.1 c_42
              refine lv_iconst (v := (0 : Int32)) hx hb dX7_loadBy_103 (by decide) ?_
              exact L_104 (fun s0 v0 v1 => wp_X7_loadBy_39 Q n s0 v0 v1) ih u_41 x1 x2 z_11 z_13 (0 : Int32) H locs ls hP hD hS (lv_sub hl [2, 3, 4, 1, 0] rfl) h
            · have h := h.2 c_42
              refine lv_iconst (v := (1 : Int32)) hx hb dX7_loadBy_99 (by decide) ?_
              refine lv_goto (tgt := 104) hx hb dX7_loadBy_100 (by decide) ?_
              exact L_104 (fun s0 v0 v1 => wp_X7_loadBy_39 Q n s0 v0 v1) ih u_41 x1 x2 z_11 z_13 (1 : Int32) H locs ls hP hD hS (lv_sub hl [2, 3, 4, 1, 0] rfl) h
  have L_8 : ∀ (n : Nat), ∀ (S0 : St) (x1 : Int32), ∀ (H : Heap) (locs : List Loc) (ls : Array Slot), va_P D vwCl (wMo k a S0) H → va_D A (wMo k a S0) → va_S A s.heap H locs → lv_has ls 7 [(0, .ref (a 0)), (1, .int x1)] → wp_X7_loadBy_8 Q n S0 x1 → W p l e rmX7_loadBy s m ([.ref (a 0)] : List Value).toArray below meth c H locs 0 0 (MQ below (va_Qi (fun (r : Int32) (u : St) => Q r u) (cB D k A (fun u : St => wMo k a u)) A) ([.ref (a 0)] : List Value).toArray s 0 0 A) (F0 m 8 ls []) := by
    intro n
    induction n with
    | zero => intro S0 x1 H locs ls hP hD hS hl h; exact absurd h (by unfold wp_X7_loadBy_8; exact id)
    | succ n ih =>
      intro S0 x1 H locs ls hP hD hS hl h
      unfold wp_X7_loadBy_8 at h
      refine lv_iload_n hx hb dX7_loadBy_8 rfl (lv_at hl 1 rfl) ?_
      refine lv_bipush (v := (8 : Int32)) hx hb dX7_loadBy_9 (by decide) ?_
      refine lv_icmp_ge (tgt := 27) hx hb dX7_loadBy_11 (by decide) (fun c_3 => ?_) (fun c_3 => ?_)
      · have h := h.1 c_3
        refine lv_iconst (v := (0 : Int32)) hx hb dX7_loadBy_27 (by decide) ?_
        refine lv_istore_n (lv' := [(1, .int (0 : Int32)), (0, .ref (a 0))]) hx hb dX7_loadBy_28 rfl hl (by decide) rfl (fun ls hl => ?_)
        refine lv_aload_n hx hb dX7_loadBy_29 rfl (lv_at hl 1 rfl) ?_
        refine lv_aload_n hx hb dX7_loadBy_30 rfl (lv_at hl 1 rfl) ?_
        refine va_get (D := D) (ci := 7) (v := .int (S0.1 29)) (C := RX7) (T := TX7) (N := 33) hx hb hts in_Mo hown hK hP 0 rfl rfl 29 (by decide) ln_231 (fun _ h9 => h9) rfl dX7_loadBy_31 ?_
        refine va_put (D := D) (ci := 7) (v := .int (S0.1 29)) (ty := .int) (C := RX7) (T := TX7) (N := 33) hx hb hts in_Mo tyX7 tyX7_ok nmX7 hown hK hP hD hS 0 rfl rfl 32 (by decide) ln_240 (fun _ h9 => h9) rfl (by decide +kernel) rfl rfl (Nat.le_of_ble_eq_true rfl) dX7_loadBy_34 (fun H locs hP hD hS => ?_)
        obtain ⟨S_4, e_5⟩ : ∃ z : St, z = (sI S0 32 (S0.1 29)) := ⟨_, rfl⟩
        have h := h S_4 e_5
        have hP : va_P D vwCl (wMo k a S_4) H := by rw [e_5]; exact hP
        have hD : va_D A (wMo k a S_4) := by rw [e_5]; exact hD
        refine lv_iconst (v := (0 : Int32)) hx hb dX7_loadBy_37 (by decide) ?_
        refine lv_istore_n (lv' := [(2, .int (0 : Int32)), (1, .int (0 : Int32)), (0, .ref (a 0))]) hx hb dX7_loadBy_38 rfl hl (by decide) rfl (fun ls hl => ?_)
        obtain ⟨n_43, h⟩ := h
        exact L_39 n_43 S_4 (0 : Int32) (0 : Int32) H locs ls hP hD hS (lv_sub hl [2, 1, 0] rfl) h
      · have h := h.2 c_3
        refine lv_aload_n hx hb dX7_loadBy_14 rfl (lv_at hl 0 rfl) ?_
        refine va_get (D := D) (ci := 7) (v := .ref (a 20)) (C := RX7) (T := TX7) (N := 33) hx hb hts in_Mo hown hK hP 0 rfl rfl 31 (by decide) ln_67 (fun _ h9 => h9) rfl dX7_loadBy_15 ?_
        refine lv_iload_n hx hb dX7_loadBy_18 rfl (lv_at hl 1 rfl) ?_
        refine lv_iconst (v := (0 : Int32)) hx hb dX7_loadBy_19 (by decide) ?_
        refine va_iast hx hb hK hP hD hS 20 0 rfl rfl h.1 dX7_loadBy_20 (fun H locs hP hD hS => ?_)
        have h := h.2
        obtain ⟨S_44, e_45⟩ : ∃ z : St, z = (sA S0 31 x1.toNatClampNeg (0 : Int32)) := ⟨_, rfl⟩
        have h := h S_44 e_45
        have hP : va_P D vwCl (wMo k a S_44) H := by rw [e_45]; exact hP
        have hD : va_D A (wMo k a S_44) := by rw [e_45]; exact hD
        refine lv_iinc (v := (x1 + 1)) (lv' := [(1, .int (x1 + 1)), (0, .ref (a 0))]) hx hb dX7_loadBy_21 hl (k := 1) rfl rfl (by decide) rfl (fun ls hl => ?_)
        refine lv_goto (tgt := 8) hx hb dX7_loadBy_24 (by decide) ?_
        exact ih S_44 (x1 + 1) H locs ls hP hD hS (lv_sub hl [1, 0] rfl) h
  unfold wp_X7_loadBy at h
  refine lv_aload_n hx hb dX7_loadBy_0 rfl (lv_at hl 0 rfl) ?_
  refine lv_iconst (v := (1 : Int32)) hx hb dX7_loadBy_1 (by decide) ?_
  refine lv_iconst (v := (1 : Int32)) hx hb dX7_loadBy_2 (by decide) ?_
  have hFc := fr_self hD hS hA
  refine gv_v (va_runV (As := [.int (1 : Int32), .int (1 : Int32)]) (rest := []) ⟨hx, hb, hml, hown, hts⟩ (c_X7_passesAll l D k a S0 H.size (1 : Int32) (1 : Int32) _ h) (cwV 2 hts gX7_loadBy_X7_passesAll rfl rfl rfl (by decide +kernel) ⟨Nat.le_of_ble_eq_true rfl, Nat.le_of_ble_eq_true rfl⟩) (gv_preV hK hnw hP hD (ci := 7) rfl 0 rfl) rfl rfl hl.1 rfl (lv_room (Nat.le_of_ble_eq_true rfl)) dX7_loadBy_3 ⟨Nat.zero_le _, Nat.zero_le _⟩) hS hFc (fun u_2 H locs h hP1 hD1 hk1 hS => ?_)
  have hP := hP1
  have hD := hD1.weaken (fun _ _ _ z => hFc _ z)
  refine lv_iconst (v := (0 : Int32)) hx hb dX7_loadBy_6 (by decide) ?_
  refine lv_istore_n (lv' := [(1, .int (0 : Int32)), (0, .ref (a 0))]) hx hb dX7_loadBy_7 rfl hl (by decide) rfl (fun ls hl => ?_)
  obtain ⟨n_46, h⟩ := h
  exact L_8 n_46 u_2 (0 : Int32) H locs ls hP hD hS (lv_sub hl [1, 0] rfl) h
