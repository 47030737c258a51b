/-! X7_image -/
def wp_X7_image (S0 : St) (Q : Int32 → St → Prop) : Prop := ∀ S_1, S_1 = (sI S0 16 (1 : Int32)) → (wp_X7_passesAll S_1 (0 : Int32) (1 : Int32) (fun u_4 => wp_X7_pairsDanced u_4 (fun r_5 u_6 => Q r_5 u_6)))
abbrev rmX7_image : Room := { frames := 2, cells := 0, slots := 0, locals := 44 }
set_option maxRecDepth 100000 in
set_option maxHeartbeats 4000000 in
theorem c_X7_image (l : Launch) (D : va_G) (k : Nat → ClassId) (a : Nat → Nat) (S0 : St) (sz : Nat) (Q : Int32 → St → Prop) (h : wp_X7_image S0 Q) : Met l yX7_image wsX7_image rmX7_image (cPc D k (wMo k a S0) [.ref (a 0)] sz) (va_Qi (fun (r : Int32) (u : St) => Q r u) (cB D k (va_A (wMo k a S0) sz) (fun u : St => wMo k a u)) (va_A (wMo k a S0) sz)) 0 0 (va_A (wMo k a S0) sz) := by
  refine ct_entry (cc := cX7_image) (maxL := 1) (ret := (some .int)) (Rn := RX7) (Qc := fun A => (va_Qi (fun (r : Int32) (u : St) => Q r u) (cB D k A (fun u : St => wMo k a u)) A)) (by decide) rfl rfl (Nat.le_of_ble_eq_true rfl) ?_
  intro p e s m below meth c hx hb hr hlocks hml hts hown hnw hK A hA H locs hP hD hS ls hl
  have hl : lv_has ls 1 [(0, .ref (a 0))] := hl
  have ln_145 := hts (.fieldLink RX7 145 "WithTheSameOneModel" "hasImage" "Z") (by decide +kernel)
  have in_Mo : ∀ w ∈ wsX70, w ∈ wsX7_image := fun _ h => List.mem_cons_of_mem _ (List.mem_append_right _ h)
  unfold wp_X7_image at h
  refine lv_aload_n hx hb dX7_image_0 rfl (lv_at hl 0 rfl) ?_
  refine lv_iconst (v := (1 : Int32)) hx hb dX7_image_1 (by decide) ?_
  refine va_put (D := D) (ci := 7) (v := .int (1 : Int32)) (ty := .boolean) (C := RX7) (T := TX7) (N := 33) hx hb hts in_Mo tyX7 tyX7_ok nmX7 hown hK hP hD hS 0 rfl rfl 16 (by decide) ln_145 (fun _ h9 => h9) rfl (by decide +kernel) rfl rfl (Nat.le_of_ble_eq_true rfl) dX7_image_2 (fun H locs hP hD hS => ?_)
  obtain ⟨S_1, e_2⟩ : ∃ z : St, z = (sI S0 16 (1 : Int32)) := ⟨_, rfl⟩
  have h := h S_1 e_2
  have hP : va_P D vwCl (wMo k a S_1) H := by rw [e_2]; exact hP
  have hD : va_D A (wMo k a S_1) := by rw [e_2]; exact hD
  refine lv_aload_n hx hb dX7_image_5 rfl (lv_at hl 0 rfl) ?_
  refine lv_iconst (v := (0 : Int32)) hx hb dX7_image_6 (by decide) ?_
  refine lv_iconst (v := (1 : Int32)) hx hb dX7_image_7 (by decide) ?_
  have hFc := fr_self hD hS hA
  refine gv_v (va_runV (As := [.int (0 : Int32), .int (1 : Int32)]) (rest := []) ⟨hx, hb, hml, hown, hts⟩ (c_X7_passesAll l D k a S_1 H.size (0 : Int32) (1 : Int32) _ h) (cwV 2 hts gX7_image_X7_passesAll rfl rfl rfl (by decide +kernel) ⟨Nat.le_of_ble_eq_true rfl, Nat.le_of_ble_eq_true rfl⟩) (gv_preV hK hnw hP hD (ci := 7) rfl 0 rfl) rfl rfl hl.1 rfl (lv_room (Nat.le_of_ble_eq_true rfl)) dX7_image_8 ⟨Nat.zero_le _, Nat.zero_le _⟩) hS hFc (fun u_4 H locs h hP1 hD1 hk1 hS => ?_)
  have hP := hP1
  have hD := hD1.weaken (fun _ _ _ z => hFc _ z)
  refine lv_aload_n hx hb dX7_image_11 rfl (lv_at hl 0 rfl) ?_
  have hFc := fr_self hD hS hA
  refine gv_i (va_runV (As := []) (rest := []) ⟨hx, hb, hml, hown, hts⟩ (c_X7_pairsDanced l D k a u_4 H.size _ h) (cwV 0 hts gX7_image_X7_pairsDanced rfl rfl rfl (by decide +kernel) ⟨Nat.le_of_ble_eq_true rfl, Nat.le_of_ble_eq_true rfl⟩) (gv_preV hK hnw hP hD (ci := 7) rfl 0 rfl) rfl rfl hl.1 rfl (lv_room (Nat.le_of_ble_eq_true rfl)) dX7_image_12 ⟨Nat.zero_le _, Nat.zero_le _⟩) hS hFc (fun r_5 u_6 H locs h hP1 hD1 hk1 hS => ?_)
  have hP := hP1
  have hD := hD1.weaken (fun _ _ _ z => hFc _ z)
  exact W.iret (v := r_5) hx hb hr (fun t ht hW => ⟨⟨r_5, u_6, rfl, h, by rw [ht]; exact hP, va_K.moved hW.alike hK, hD⟩, hS.F ht⟩) hS.2.2 dX7_image_15
/-! X7_restore -/
def wp_X7_restore (S0 : St) (Q : Int32 → St → Prop) : Prop := ((¬ (S0.1 16) = 0) → (wp_X7_passesAll S0 (0 : Int32) (0 : Int32) (fun u_3 => wp_X7_pairsDanced u_3 (fun r_4 u_5 => Q r_4 u_5)))) ∧ (((S0.1 16) = 0) → (wp_X7_no S0 (-3 : Int32) (fun r_6 u_7 => Q r_6 u_7)))
abbrev rmX7_restore : Room := { frames := 2, cells := 0, slots := 0, locals := 44 }
set_option maxRecDepth 100000 in
set_option maxHeartbeats 4000000 in
theorem c_X7_restore (l : Launch) (D : va_G) (k : Nat → ClassId) (a : Nat → Nat) (S0 : St) (sz : Nat) (Q : Int32 → St → Prop) (h : wp_X7_restore S0 Q) : Met l yX7_restore wsX7_restore rmX7_restore (cPc D k (wMo k a S0) [.ref (a 0)] sz) (va_Qi (fun (r : Int32) (u : St) => Q r u) (cB D k (va_A (wMo k a S0) sz) (fun u : St => wMo k a u)) (va_A (wMo k a S0) sz)) 0 0 (va_A (wMo k a S0) sz) := by
  refine ct_entry (cc := cX7_restore) (maxL := 1) (ret := (some .int)) (Rn := RX7) (Qc := fun A => (va_Qi (fun (r : Int32) (u : St) => Q r u) (cB D k A (fun u : St => wMo k a u)) A)) (by decide) rfl rfl (Nat.le_of_ble_eq_true rfl) ?_
  intro p e s m below meth c hx hb hr hlocks hml hts hown hnw hK A hA H locs hP hD hS ls hl
  have hl : lv_has ls 1 [(0, .ref (a 0))] := hl
  have ln_145 := hts (.fieldLink RX7 145 "WithTheSameOneModel" "hasImage" "Z") (by decide +kernel)
  have in_Mo : ∀ w ∈ wsX70, w ∈ wsX7_restore := fun _ h => List.mem_cons_of_mem _ (List.mem_append_right _ h)
  unfold wp_X7_restore at h
  refine lv_aload_n hx hb dX7_restore_0 rfl (lv_at hl 0 rfl) ?_
  refine va_get (D := D) (ci := 7) (v := .int (S0.1 16)) (C := RX7) (T := TX7) (N := 33) hx hb hts in_Mo hown hK hP 0 rfl rfl 16 (by decide) ln_145 (fun _ h9 => h9) rfl dX7_restore_1 ?_
  refine lv_if_ne (tgt := 14) hx hb dX7_restore_4 (by decide) (fun c_1 => ?_) (fun c_1 => ?_)
  · have h := h.1 c_1
    refine lv_aload_n hx hb dX7_restore_14 rfl (lv_at hl 0 rfl) ?_
    refine lv_iconst (v := (0 : Int32)) hx hb dX7_restore_15 (by decide) ?_
    refine lv_iconst (v := (0 : Int32)) hx hb dX7_restore_16 (by decide) ?_
    have hFc := fr_self hD hS hA
    refine gv_v (va_runV (As := [.int (0 : Int32), .int (0 : Int32)]) (rest := []) ⟨hx, hb, hml, hown, hts⟩ (c_X7_passesAll l D k a S0 H.size (0 : Int32) (0 : Int32) _ h) (cwV 2 hts gX7_restore_X7_passesAll rfl rfl rfl (by decide +kernel) ⟨Nat.le_of_ble_eq_true rfl, Nat.le_of_ble_eq_true rfl⟩) (gv_preV hK hnw hP hD (ci := 7) rfl 0 rfl) rfl rfl hl.1 rfl (lv_room (Nat.le_of_ble_eq_true rfl)) dX7_restore_17 ⟨Nat.zero_le _, Nat.zero_le _⟩) hS hFc (fun u_3 H locs h hP1 hD1 hk1 hS => ?_)
    have hP := hP1
    have hD := hD1.weaken (fun _ _ _ z => hFc _ z)
    refine lv_aload_n hx hb dX7_restore_20 rfl (lv_at hl 0 rfl) ?_
    have hFc := fr_self hD hS hA
    refine gv_i (va_runV (As := []) (rest := []) ⟨hx, hb, hml, hown, hts⟩ (c_X7_pairsDanced l D k a u_3 H.size _ h) (cwV 0 hts gX7_restore_X7_pairsDanced rfl rfl rfl (by decide +kernel) ⟨Nat.le_of_ble_eq_true rfl, Nat.le_of_ble_eq_true rfl⟩) (gv_preV hK hnw hP hD (ci := 7) rfl 0 rfl) rfl rfl hl.1 rfl (lv_room (Nat.le_of_ble_eq_true rfl)) dX7_restore_21 ⟨Nat.zero_le _, Nat.zero_le _⟩) hS hFc (fun r_4 u_5 H locs h hP1 hD1 hk1 hS => ?_)
    have hP := hP1
    have hD := hD1.weaken (fun _ _ _ z => hFc _ z)
    exact W.iret (v := r_4) hx hb hr (fun t ht hW => ⟨⟨r_4, u_5, rfl, h, by rw [ht]; exact hP, va_K.moved hW.alike hK, hD⟩, hS.F ht⟩) hS.2.2 dX7_restore_24
  · have h := h.2 c_1
    refine lv_aload_n hx hb dX7_restore_7 rfl (lv_at hl 0 rfl) ?_
    refine lv_bipush (v := (-3 : Int32)) hx hb dX7_restore_8 (by decide) ?_
    have hFc := fr_self hD hS hA
    refine gv_i (va_runV (As := [.int (-3 : Int32)]) (rest := []) ⟨hx, hb, hml, hown, hts⟩ (c_X7_no l D k a S0 H.size (-3 : Int32) _ h) (cwV 1 hts gX7_restore_X7_no rfl rfl rfl (by decide +kernel) ⟨Nat.le_of_ble_eq_true rfl, Nat.le_of_ble_eq_true rfl⟩) (gv_preV hK hnw hP hD (ci := 7) rfl 0 rfl) rfl rfl hl.1 rfl (lv_room (Nat.le_of_ble_eq_true rfl)) dX7_restore_10 ⟨Nat.zero_le _, Nat.zero_le _⟩) hS hFc (fun r_6 u_7 H locs h hP1 hD1 hk1 hS => ?_)
    have hP := hP1
    have hD := hD1.weaken (fun _ _ _ z => hFc _ z)
    exact W.iret (v := r_6) hx hb hr (fun t ht hW => ⟨⟨r_6, u_7, rfl, h, by rw [ht]; exact hP, va_K.moved hW.alike hK, hD⟩, hS.F ht⟩) hS.2.2 dX7_restore_13
/-! X7_isBringing -/
def wp_X7_isBringing_77 (x1 : Int32) (x2 : Int32) (x3 : Int32) (Q : Int32 → St → Prop) (S0 : St) (x4 : Int32) (y0 : Int32) : Prop := vp_in x1 8 ∧ (((S0.2 1 x1.toNatClampNeg) = (1 : Int32) → (bz x4 ∧ Q x4 S0)) ∧ (¬ (S0.2 1 x1.toNatClampNeg) = (1 : Int32) → (((S0.2 1 x1.toNatClampNeg) = (2 : Int32) → (bz y0 ∧ Q y0 S0)) ∧ (¬ (S0.2 1 x1.toNatClampNeg) = (2 : Int32) → (((S0.2 1 x1.toNatClampNeg) = (4 : Int32) → (((x4 = 0) → (Q (0 : Int32) S0)) ∧ ((¬ x4 = 0) → ((((x2 - x1) = (1 : Int32)) → (Q (1 : Int32) S0)) ∧ ((¬ (x2 - x1) = (1 : Int32)) → ((((x1 - x2) = (1 : Int32)) → (Q (1 : Int32) S0)) ∧ ((¬ (x1 - x2) = (1 : Int32)) → ((((x3 - x1) = (1 : Int32)) → (Q (1 : Int32) S0)) ∧ ((¬ (x3 - x1) = (1 : Int32)) → (((¬ (x1 - x3) = (1 : Int32)) → (Q (0 : Int32) S0)) ∧ (((x1 - x3) = (1 : Int32)) → (Q (1 : Int32) S0)))))))))))) ∧ (¬ (S0.2 1 x1.toNatClampNeg) = (4 : Int32) → (((S0.2 1 x1.toNatClampNeg) = (5 : Int32) → (((y0 = 0) → (Q (0 : Int32) S0)) ∧ ((¬ y0 = 0) → (vp_in x1 8 ∧ (wp_X7_bits (S0.2 4 x1.toNatClampNeg) (fun r_21 => ((r_21 < (3 : Int32)) → (Q (0 : Int32) S0)) ∧ ((¬ r_21 < (3 : Int32)) → (Q (1 : Int32) S0)))))))) ∧ (¬ (S0.2 1 x1.toNatClampNeg) = (5 : Int32) → (Q (1 : Int32) S0)))))))))
def wp_X7_isBringing_50 (x1 : Int32) (x2 : Int32) (x3 : Int32) (Q : Int32 → St → Prop) (S0 : St) (y0 : Int32) : Prop := vp_in x1 8 ∧ ((((S0.2 2 x1.toNatClampNeg) = x2) → (wp_X7_isBringing_77 x1 x2 x3 Q S0 y0 (0 : Int32))) ∧ ((¬ (S0.2 2 x1.toNatClampNeg) = x2) → (vp_in x1 8 ∧ ((((S0.2 2 x1.toNatClampNeg) = x3) → (wp_X7_isBringing_77 x1 x2 x3 Q S0 y0 (0 : Int32))) ∧ ((¬ (S0.2 2 x1.toNatClampNeg) = x3) → (wp_X7_isBringing_77 x1 x2 x3 Q S0 y0 (1 : Int32)))))))
def wp_X7_isBringing (S0 : St) (x1 : Int32) (x2 : Int32) (x3 : Int32) (Q : Int32 → St → Prop) : Prop := ((x1 = x2) → (Q (0 : Int32) S0)) ∧ ((¬ x1 = x2) → (((x1 = x3) → (Q (0 : Int32) S0)) ∧ ((¬ x1 = x3) → (wp_X7_haveDanced S0 x1 x2 (fun r_3 u_4 => ((r_3 = 0) → (Q (0 : Int32) u_4)) ∧ ((¬ r_3 = 0) → (wp_X7_haveDanced u_4 x1 x3 (fun r_6 u_7 => ((¬ r_6 = 0) → (vp_in x1 8 ∧ (vp_in x1 8 ∧ ((((u_7.2 2 x1.toNatClampNeg) ≤ (u_7.2 3 x1.toNatClampNeg)) → (wp_X7_isBringing_50 x1 x2 x3 Q u_7 (0 : Int32))) ∧ ((¬ (u_7.2 2 x1.toNatClampNeg) ≤ (u_7.2 3 x1.toNatClampNeg)) → (wp_X7_isBringing_50 x1 x2 x3 Q u_7 (1 : Int32))))))) ∧ ((r_6 = 0) → (Q (0 : Int32) u_7))))))))))
abbrev rmX7_isBringing : Room := { frames := 1, cells := 0, slots := 0, locals := 22 }
set_option maxRecDepth 100000 in
set_option maxHeartbeats 4000000 in
theorem c_X7_isBringing (l : Launch) (D : va_G) (k : Nat → ClassId) (a : Nat → Nat) (S0 : St) (sz : Nat) (x1 : Int32) (x2 : Int32) (x3 : Int32) (Q : Int32 → St → Prop) (h : wp_X7_isBringing S0 x1 x2 x3 Q) : Met l yX7_isBringing wsX7_isBringing rmX7_isBringing (cPc D k (wMo k a S0) [.ref (a 0), .int x1, .int x2, .int x3] sz) (va_Qi (fun (r : Int32) (u : St) => Q r u) (cB D k (va_A (wMo k a S0) sz) (fun u : St => wMo k a u)) (va_A (wMo k a S0) sz)) 0 0 (va_A (wMo k a S0) sz) := by
  refine ct_entry (cc := cX7_isBringing) (maxL := 6) (ret := (some .boolean)) (Rn := RX7) (Qc := fun A => (va_Qi (fun (r : Int32) (u : St) => Q r u) (cB D k A (fun u : St => wMo k a u)) A)) (by decide) rfl rfl (Nat.le_of_ble_eq_true rfl) ?_
  intro p e s m below meth c hx hb hr hlocks hml hts hown hnw hK A hA H locs hP hD hS ls hl
  have hl : lv_has ls 6 [(0, .ref (a 0)), (1, .int x1), (2, .int x2), (3, .int x3)] := hl
  have ln_13 := hts (.fieldLink RX7 13 "WithTheSameOneModel" "kind" "[I") (by decide +kernel)
  have ln_16 := hts (.fieldLink RX7 16 "WithTheSameOneModel" "figure" "[I") (by decide +kernel)
  have ln_19 := hts (.fieldLink RX7 19 "WithTheSameOneModel" "brought" "[I") (by decide +kernel)
  have ln_22 := hts (.fieldLink RX7 22 "WithTheSameOneModel" "with" "[I") (by decide +kernel)
  have in_Mo : ∀ w ∈ wsX70, w ∈ wsX7_isBringing := fun _ h => List.mem_cons_of_mem _ (List.mem_append_right _ h)
  have L_77 : ∀ (S0 : St) (x4 : Int32) (y0 : Int32), ∀ (H : Heap) (locs : List Loc) (ls : Array Slot), va_P D vwCl (wMo k a S0) H → va_D A (wMo k a S0) → va_S A s.heap H locs → lv_has ls 6 [(0, .ref (a 0)), (1, .int x1), (2, .int x2), (3, .int x3), (4, .int x4)] → wp_X7_isBringing_77 x1 x2 x3 Q S0 x4 y0 → W p l e rmX7_isBringing s m ([.ref (a 0), .int x1, .int x2, .int x3] : List Value).toArray below meth c H locs 0 0 (MQ below (va_Qi (fun (r : Int32) (u : St) => Q r u) (cB D k A (fun u : St => wMo k a u)) A) ([.ref (a 0), .int x1, .int x2, .int x3] : List Value).toArray s 0 0 A) (F0 m 77 ls [.int y0]) := by
    intro S0 x4 y0 H locs ls hP hD hS hl h
    unfold wp_X7_isBringing_77 at h
    refine lv_istore (lv' := [(5, .int y0), (0, .ref (a 0)), (1, .int x1), (2, .int x2), (3, .int x3), (4, .int x4)]) hx hb dX7_isBringing_77 hl (by decide) rfl (fun ls hl => ?_)
    refine lv_aload_n hx hb dX7_isBringing_79 rfl (lv_at hl 1 rfl) ?_
    refine va_get (D := D) (ci := 7) (v := .ref (a 2)) (C := RX7) (T := TX7) (N := 33) hx hb hts in_Mo hown hK hP 0 rfl rfl 1 (by decide) ln_13 (fun _ h9 => h9) rfl dX7_isBringing_80 ?_
    refine lv_iload_n hx hb dX7_isBringing_83 rfl (lv_at hl 2 rfl) ?_
    refine va_iald hx hb hK hP 2 0 rfl rfl h.1 dX7_isBringing_84 ?_
    have h := h.2
    by_cases c_11 : (S0.2 1 x1.toNatClampNeg) = (1 : Int32)
    · have h := h.1 c_11
      refine lv_tableIn (off := 35) (tgt := 120) hx hb dX7_isBringing_85 (by rw [c_11]; decide) (by rw [c_11]; decide) (by rw [c_11]; rfl) (by decide) ?_
      refine lv_iload hx hb dX7_isBringing_120 (lv_at hl 5 rfl) ?_
      exact W.zret (v := x4) hx hb hr (bz_narrow h.1) (fun t ht hW => ⟨⟨x4, S0, rfl, h.2, by rw [ht]; exact hP, va_K.moved hW.alike hK, hD⟩, hS.F ht⟩) hS.2.2 dX7_isBringing_122
    · have h := h.2 c_11
      by_cases c_12 : (S0.2 1 x1.toNatClampNeg) = (2 : Int32)
      · have h := h.1 c_12
        refine lv_tableIn (off := 38) (tgt := 123) hx hb dX7_isBringing_85 (by rw [c_12]; decide) (by rw [c_12]; decide) (by rw [c_12]; rfl) (by decide) ?_
        refine lv_iload hx hb dX7_isBringing_123 (lv_at hl 0 rfl) ?_
        exact W.zret (v := y0) hx hb hr (bz_narrow h.1) (fun t ht hW => ⟨⟨y0, S0, rfl, h.2, by rw [ht]; exact hP, va_K.moved hW.alike hK, hD⟩, hS.F ht⟩) hS.2.2 dX7_isBringing_125
      · have h := h.2 c_12
        by_cases c_13 : (S0.2 1 x1.toNatClampNeg) = (4 : Int32)
        · have h := h.1 c_13
          refine lv_tableIn (off := 41) (tgt := 126) hx hb dX7_isBringing_85 (by rw [c_13]; decide) (by rw [c_13]; decide) (by rw [c_13]; rfl) (by decide) ?_
          refine lv_iload hx hb dX7_isBringing_126 (lv_at hl 5 rfl) ?_
          refine lv_if_eq (tgt := 163) hx hb dX7_isBringing_128 (by decide) (fun c_14 => ?_) (fun c_14 => ?_)
          · have h := h.1 c_14
            refine lv_iconst (v := (0 : Int32)) hx hb dX7_isBringing_163 (by decide) ?_
            exact W.zret (v := (0 : Int32)) hx hb hr rfl (fun t ht hW => ⟨⟨(0 : Int32), S0, rfl, h, by rw [ht]; exact hP, va_K.moved hW.alike hK, hD⟩, hS.F ht⟩) hS.2.2 dX7_isBringing_164
          · have h := h.2 c_14
            refine lv_iload_n hx hb dX7_isBringing_131 rfl (lv_at hl 3 rfl) ?_
            refine lv_iload_n hx hb dX7_isBringing_132 rfl (lv_at hl 2 rfl) ?_
            refine lv_isub hx hb dX7_isBringing_133 ?_
            refine lv_iconst (v := (1 : Int32)) hx hb dX7_isBringing_134 (by decide) ?_
            refine lv_icmp_eq (tgt := 159) hx hb dX7_isBringing_135 (by decide) (fun c_15 => ?_) (fun c_15 => ?_)
            · have h := h.1 c_15
              refine lv_iconst (v := (1 : Int32)) hx hb dX7_isBringing_159 (by decide) ?_
              refine lv_goto (tgt := 164) hx hb dX7_isBringing_160 (by decide) ?_
              exact W.zret (v := (1 : Int32)) hx hb hr rfl (fun t ht hW => ⟨⟨(1 : Int32), S0, rfl, h, by rw [ht]; exact hP, va_K.moved hW.alike hK, hD⟩, hS.F ht⟩) hS.2.2 dX7_isBringing_164
            · have h := h.2 c_15
              refine lv_iload_n hx hb dX7_isBringing_138 rfl (lv_at hl 2 rfl) ?_
              refine lv_iload_n hx hb dX7_isBringing_139 rfl (lv_at hl 3 rfl) ?_
              refine lv_isub hx hb dX7_isBringing_140 ?_
              refine lv_iconst (v := (1 : Int32)) hx hb dX7_isBringing_141 (by decide) ?_
              refine lv_icmp_eq (tgt := 159) hx hb dX7_isBringing_142 (by decide) (fun c_16 => ?_) (fun c_16 => ?_)
              · have h := h.1 c_16
                refine lv_iconst (v := (1 : Int32)) hx hb dX7_isBringing_159 (by decide) ?_
                refine lv_goto (tgt := 164) hx hb dX7_isBringing_160 (by decide) ?_
                exact W.zret (v := (1 : Int32)) hx hb hr rfl (fun t ht hW => ⟨⟨(1 : Int32), S0, rfl, h, by rw [ht]; exact hP, va_K.moved hW.alike hK, hD⟩, hS.F ht⟩) hS.2.2 dX7_isBringing_164
              · have h := h.2 c_16
                refine lv_iload_n hx hb dX7_isBringing_145 rfl (lv_at hl 4 rfl) ?_
                refine lv_iload_n hx hb dX7_isBringing_146 rfl (lv_at hl 2 rfl) ?_
                refine lv_isub hx hb dX7_isBringing_147 ?_
                refine lv_iconst (v := (1 : Int32)) hx hb dX7_isBringing_148 (by decide) ?_
                refine lv_icmp_eq (tgt := 159) hx hb dX7_isBringing_149 (by decide) (fun c_17 => ?_) (fun c_17 => ?_)
                · have h := h.1 c_17
                  refine lv_iconst (v := (1 : Int32)) hx hb dX7_isBringing_159 (by decide) ?_
                  refine lv_goto (tgt := 164) hx hb dX7_isBringing_160 (by decide) ?_
                  exact W.zret (v := (1 : Int32)) hx hb hr rfl (fun t ht hW => ⟨⟨(1 : Int32), S0, rfl, h, by rw [ht]; exact hP, va_K.moved hW.alike hK, hD⟩, hS.F ht⟩) hS.2.2 dX7_isBringing_164
                · have h := h.2 c_17
                  refine lv_iload_n hx hb dX7_isBringing_152 rfl (lv_at hl 2 rfl) ?_
                  refine lv_iload_n hx hb dX7_isBringing_153 rfl (lv_at hl 4 rfl) ?_
                  refine lv_isub hx hb dX7_isBringing_154 ?_
                  refine lv_iconst (v := (1 : Int32)) hx hb dX7_isBringing_155 (by decide) ?_
                  refine lv_icmp_ne (tgt := 163) hx hb dX7_isBringing_156 (by decide) (fun c_18 => ?_) (fun c_18 => ?_)
                  · have h := h.1 c_18
                    refine lv_iconst (v := (0 : Int32)) hx hb dX7_isBringing_163 (by decide) ?_
                    exact W.zret (v := (0 : Int32)) hx hb hr rfl (fun t ht hW => ⟨⟨(0 : Int32), S0, rfl, h, by rw [ht]; exact hP, va_K.moved hW.alike hK, hD⟩, hS.F ht⟩) hS.2.2 dX7_isBringing_164
                  · have h := h.2 c_18
                    refine lv_iconst (v := (1 : Int32)) hx hb dX7_isBringing_159 (by decide) ?_
                    refine lv_goto (tgt := 164) hx hb dX7_isBringing_160 (by decide) ?_
                    exact W.zret (v := (1 : Int32)) hx hb hr rfl (fun t ht hW => ⟨⟨(1 : Int32), S0, rfl, h, by rw [ht]; exact hP, va_K.moved hW.alike hK, hD⟩, hS.F ht⟩) hS.2.2 dX7_isBringing_164
        · have h := h.2 c_13
          by_cases c_19 : (S0.2 1 x1.toNatClampNeg) = (5 : Int32)
          · have h := h.1 c_19
            refine lv_tableIn (off := 80) (tgt := 165) hx hb dX7_isBringing_85 (by rw [c_19]; decide) (by rw [c_19]; decide) (by rw [c_19]; rfl) (by decide) ?_
            refine lv_iload hx hb dX7_isBringing_165 (lv_at hl 0 rfl) ?_
            refine lv_if_eq (tgt := 187) hx hb dX7_isBringing_167 (by decide) (fun c_20 => ?_) (fun c_20 => ?_)
            · have h := h.1 c_20
              refine lv_iconst (v := (0 : Int32)) hx hb dX7_isBringing_187 (by decide) ?_
              exact W.zret (v := (0 : Int32)) hx hb hr rfl (fun t ht hW => ⟨⟨(0 : Int32), S0, rfl, h, by rw [ht]; exact hP, va_K.moved hW.alike hK, hD⟩, hS.F ht⟩) hS.2.2 dX7_isBringing_188
            · have h := h.2 c_20
              refine lv_aload_n hx hb dX7_isBringing_170 rfl (lv_at hl 1 rfl) ?_
              refine va_get (D := D) (ci := 7) (v := .ref (a 5)) (C := RX7) (T := TX7) (N := 33) hx hb hts in_Mo hown hK hP 0 rfl rfl 4 (by decide) ln_22 (fun _ h9 => h9) rfl dX7_isBringing_171 ?_
              refine lv_iload_n hx hb dX7_isBringing_174 rfl (lv_at hl 2 rfl) ?_
              refine va_iald hx hb hK hP 5 0 rfl rfl h.1 dX7_isBringing_175 ?_
              have h := h.2
              refine gs_i (va_runS (As := [.int (S0.2 4 x1.toNatClampNeg)]) (rest := []) ⟨hx, hb, hml, hown, hts⟩ (c_X7_bits l (S0.2 4 x1.toNatClampNeg) _ h) (va_cwS 1 hts gX7_isBringing_X7_bits rfl rfl rfl (by decide +kernel) ⟨Nat.le_of_ble_eq_true rfl, Nat.le_of_ble_eq_true rfl⟩) preEq rfl rfl hl.1 rfl (lv_room (Nat.le_of_ble_eq_true rfl)) dX7_isBringing_176 ⟨Nat.zero_le _, Nat.zero_le _⟩) (fun r_21 h => ?_)
              refine lv_iconst (v := (3 : Int32)) hx hb dX7_isBringing_179 (by decide) ?_
              refine lv_icmp_lt (tgt := 187) hx hb dX7_isBringing_180 (by decide) (fun c_22 => ?_) (fun c_22 => ?_)
              · have h := h.1 c_22
                refine lv_iconst (v := (0 : Int32)) hx hb dX7_isBringing_187 (by decide) ?_
                exact W.zret (v := (0 : Int32)) hx hb hr rfl (fun t ht hW => ⟨⟨(0 : Int32), S0, rfl, h, by rw [ht]; exact hP, va_K.moved hW.alike hK, hD⟩, hS.F ht⟩) hS.2.2 dX7_isBringing_188
              · have h := h.2 c_22
                refine lv_iconst (v := (1 : Int32)) hx hb dX7_isBringing_183 (by decide) ?_
                refine lv_goto (tgt := 188) hx hb dX7_isBringing_184 (by decide) ?_
                exact W.zret (v := (1 : Int32)) hx hb hr rfl (fun t ht hW => ⟨⟨(1 : Int32), S0, rfl, h, by rw [ht]; exact hP, va_K.moved hW.alike hK, hD⟩, hS.F ht⟩) hS.2.2 dX7_isBringing_188
          · have h := h.2 c_19
            refine lv_tableD (tgt := 189) hx hb dX7_isBringing_85 (by
      have n0 := lv_neT (k := (1 : Int32)) (a := 1) c_11 (by decide)
      have n1 := lv_neT (k := (2 : Int32)) (a := 2) c_12 (by decide)
      have n2 := lv_neT (k := (4 : Int32)) (a := 4) c_13 (by decide)
      have n3 := lv_neT (k := (5 : Int32)) (a := 5) c_19 (by decide)
      rcases (show (S0.2 1 x1.toNatClampNeg).toInt < 1 ∨ 5 < (S0.2 1 x1.toNatClampNeg).toInt ∨ (S0.2 1 x1.toNatClampNeg).toInt = 3 by omega) with q | q | q
      · exact Or.inl q
      · exact Or.inr (Or.inl q)
      · exact Or.inr (Or.inr (by rw [q]; rfl))) (by decide) ?_
            refine lv_iconst (v := (1 : Int32)) hx hb dX7_isBringing_189 (by decide) ?_
            exact W.zret (v := (1 : Int32)) hx hb hr rfl (fun t ht hW => ⟨⟨(1 : Int32), S0, rfl, h, by rw [ht]; exact hP, va_K.moved hW.alike hK, hD⟩, hS.F ht⟩) hS.2.2 dX7_isBringing_190
  have L_50 : ∀ (S0 : St) (y0 : Int32), ∀ (H : Heap) (locs : List Loc) (ls : Array Slot), va_P D vwCl (wMo k a S0) H → va_D A (wMo k a S0) → va_S A s.heap H locs → lv_has ls 6 [(0, .ref (a 0)), (1, .int x1), (2, .int x2), (3, .int x3)] → wp_X7_isBringing_50 x1 x2 x3 Q S0 y0 → W p l e rmX7_isBringing s m ([.ref (a 0), .int x1, .int x2, .int x3] : List Value).toArray below meth c H locs 0 0 (MQ below (va_Qi (fun (r : Int32) (u : St) => Q r u) (cB D k A (fun u : St => wMo k a u)) A) ([.ref (a 0), .int x1, .int x2, .int x3] : List Value).toArray s 0 0 A) (F0 m 50 ls [.int y0]) := by
    intro S0 y0 H locs ls hP hD hS hl h
    unfold wp_X7_isBringing_50 at h
    refine lv_istore (lv' := [(4, .int y0), (0, .ref (a 0)), (1, .int x1), (2, .int x2), (3, .int x3)]) hx hb dX7_isBringing_50 hl (by decide) rfl (fun ls hl => ?_)
    refine lv_aload_n hx hb dX7_isBringing_52 rfl (lv_at hl 1 rfl) ?_
    refine va_get (D := D) (ci := 7) (v := .ref (a 3)) (C := RX7) (T := TX7) (N := 33) hx hb hts in_Mo hown hK hP 0 rfl rfl 2 (by decide) ln_16 (fun _ h9 => h9) rfl dX7_isBringing_53 ?_
    refine lv_iload_n hx hb dX7_isBringing_56 rfl (lv_at hl 2 rfl) ?_
    refine va_iald hx hb hK hP 3 0 rfl rfl h.1 dX7_isBringing_57 ?_
    have h := h.2
    refine lv_iload_n hx hb dX7_isBringing_58 rfl (lv_at hl 3 rfl) ?_
    refine lv_icmp_eq (tgt := 76) hx hb dX7_isBringing_59 (by decide) (fun c_10 => ?_) (fun c_10 => ?_)
    · have h := h.1 c_10
      refine lv_iconst (v := (0 : Int32)) hx hb dX7_isBringing_76 (by decide) ?_
      exact L_77 S0 y0 (0 : Int32) H locs ls hP hD hS (lv_sub hl [1, 2, 3, 4, 0] rfl) h
    · have h := h.2 c_10
      refine lv_aload_n hx hb dX7_isBringing_62 rfl (lv_at hl 1 rfl) ?_
      refine va_get (D := D) (ci := 7) (v := .ref (a 3)) (C := RX7) (T := TX7) (N := 33) hx hb hts in_Mo hown hK hP 0 rfl rfl 2 (by decide) ln_16 (fun _ h9 => h9) rfl dX7_isBringing_63 ?_
      refine lv_iload_n hx hb dX7_isBringing_66 rfl (lv_at hl 2 rfl) ?_
      refine va_iald hx hb hK hP 3 0 rfl rfl h.1 dX7_isBringing_67 ?_
      have h := h.2
      refine lv_iload_n hx hb dX7_isBringing_68 rfl (lv_at hl 4 rfl) ?_
      refine lv_icmp_eq (tgt := 76) hx hb dX7_isBringing_69 (by decide) (fun c_23 => ?_) (fun c_23 => ?_)
      · have h := h.1 c_23
        refine lv_iconst (v := (0 : Int32)) hx hb dX7_isBringing_76 (by decide) ?_
        exact L_77 S0 y0 (0 : Int32) H locs ls hP hD hS (lv_sub hl [1, 2, 3, 4, 0] rfl) h
      · have h := h.2 c_23
        refine lv_iconst (v := (1 : Int32)) hx hb dX7_isBringing_72 (by decide) ?_
        refine lv_goto (tgt := 77) hx hb dX7_isBringing_73 (by decide) ?_
        exact L_77 S0 y0 (1 : Int32) H locs ls hP hD hS (lv_sub hl [1, 2, 3, 4, 0] rfl) h
  unfold wp_X7_isBringing at h
  refine lv_iload_n hx hb dX7_isBringing_0 rfl (lv_at hl 1 rfl) ?_
  refine lv_iload_n hx hb dX7_isBringing_1 rfl (lv_at hl 2 rfl) ?_
  refine lv_icmp_eq (tgt := 28) hx hb dX7_isBringing_2 (by decide) (fun c_1 => ?_) (fun c_1 => ?_)
  · have h := h.1 c_1
    refine lv_iconst (v := (0 : Int32)) hx hb dX7_isBringing_28 (by decide) ?_
    exact W.zret (v := (0 : Int32)) hx hb hr rfl (fun t ht hW => ⟨⟨(0 : Int32), S0, rfl, h, by rw [ht]; exact hP, va_K.moved hW.alike hK, hD⟩, hS.F ht⟩) hS.2.2 dX7_isBringing_29
  · have h := h.2 c_1
    refine lv_iload_n hx hb dX7_isBringing_5 rfl (lv_at hl 1 rfl) ?_
    refine lv_iload_n hx hb dX7_isBringing_6 rfl (lv_at hl 3 rfl) ?_
    refine lv_icmp_eq (tgt := 28) hx hb dX7_isBringing_7 (by decide) (fun c_2 => ?_) (fun c_2 => ?_)
    · have h := h.1 c_2
      refine lv_iconst (v := (0 : Int32)) hx hb dX7_isBringing_28 (by decide) ?_
      exact W.zret (v := (0 : Int32)) hx hb hr rfl (fun t ht hW => ⟨⟨(0 : Int32), S0, rfl, h, by rw [ht]; exact hP, va_K.moved hW.alike hK, hD⟩, hS.F ht⟩) hS.2.2 dX7_isBringing_29
    · have h := h.2 c_2
      refine lv_aload_n hx hb dX7_isBringing_10 rfl (lv_at hl 0 rfl) ?_
      refine lv_iload_n hx hb dX7_isBringing_11 rfl (lv_at hl 1 rfl) ?_
      refine lv_iload_n hx hb dX7_isBringing_12 rfl (lv_at hl 2 rfl) ?_
      have hFc := fr_self hD hS hA
      refine gv_i (va_runV (As := [.int x1, .int x2]) (rest := []) ⟨hx, hb, hml, hown, hts⟩ (c_X7_haveDanced l D k a S0 H.size x1 x2 _ h) (cwV 2 hts gX7_isBringing_X7_haveDanced rfl rfl rfl (by decide +kernel) ⟨Nat.le_of_ble_eq_true rfl, Nat.le_of_ble_eq_true rfl⟩) (gv_preV hK hnw hP hD (ci := 7) rfl 0 rfl) rfl rfl hl.1 rfl (lv_room (Nat.le_of_ble_eq_true rfl)) dX7_isBringing_13 ⟨Nat.zero_le _, Nat.zero_le _⟩) hS hFc (fun r_3 u_4 H locs h hP1 hD1 hk1 hS => ?_)
      have hP := hP1
      have hD := hD1.weaken (fun _ _ _ z => hFc _ z)
      refine lv_if_eq (tgt := 28) hx hb dX7_isBringing_16 (by decide) (fun c_5 => ?_) (fun c_5 => ?_)
      · have h := h.1 c_5
        refine lv_iconst (v := (0 : Int32)) hx hb dX7_isBringing_28 (by decide) ?_
        exact W.zret (v := (0 : Int32)) hx hb hr rfl (fun t ht hW => ⟨⟨(0 : Int32), u_4, rfl, h, by rw [ht]; exact hP, va_K.moved hW.alike hK, hD⟩, hS.F ht⟩) hS.2.2 dX7_isBringing_29
      · have h := h.2 c_5
        refine lv_aload_n hx hb dX7_isBringing_19 rfl (lv_at hl 0 rfl) ?_
        refine lv_iload_n hx hb dX7_isBringing_20 rfl (lv_at hl 1 rfl) ?_
        refine lv_iload_n hx hb dX7_isBringing_21 rfl (lv_at hl 3 rfl) ?_
        have hFc := fr_self hD hS hA
        refine gv_i (va_runV (As := [.int x1, .int x3]) (rest := []) ⟨hx, hb, hml, hown, hts⟩ (c_X7_haveDanced l D k a u_4 H.size x1 x3 _ h) (cwV 2 hts gX7_isBringing_X7_haveDanced rfl rfl rfl (by decide +kernel) ⟨Nat.le_of_ble_eq_true rfl, Nat.le_of_ble_eq_true rfl⟩) (gv_preV hK hnw hP hD (ci := 7) rfl 0 rfl) rfl rfl hl.1 rfl (lv_room (Nat.le_of_ble_eq_true rfl)) dX7_isBringing_22 ⟨Nat.zero_le _, Nat.zero_le _⟩) hS hFc (fun r_6 u_7 H locs h hP1 hD1 hk1 hS => ?_)
        have hP := hP1
        have hD := hD1.weaken (fun _ _ _ z => hFc _ z)
        refine lv_if_ne (tgt := 30) hx hb dX7_isBringing_25 (by decide) (fun c_8 => ?_) (fun c_8 => ?_)
        · have h := h.1 c_8
          refine lv_aload_n hx hb dX7_isBringing_30 rfl (lv_at hl 0 rfl) ?_
          refine va_get (D := D) (ci := 7) (v := .ref (a 4)) (C := RX7) (T := TX7) (N := 33) hx hb hts in_Mo hown hK hP 0 rfl rfl 3 (by decide) ln_19 (fun _ h9 => h9) rfl dX7_isBringing_31 ?_
          refine lv_iload_n hx hb dX7_isBringing_34 rfl (lv_at hl 1 rfl) ?_
          refine va_iald hx hb hK hP 4 0 rfl rfl h.1 dX7_isBringing_35 ?_
          have h := h.2
          refine lv_aload_n hx hb dX7_isBringing_36 rfl (lv_at hl 0 rfl) ?_
          refine va_get (D := D) (ci := 7) (v := .ref (a 3)) (C := RX7) (T := TX7) (N := 33) hx hb hts in_Mo hown hK hP 0 rfl rfl 2 (by decide) ln_16 (fun _ h9 => h9) rfl dX7_isBringing_37 ?_
          refine lv_iload_n hx hb dX7_isBringing_40 rfl (lv_at hl 1 rfl) ?_
          refine va_iald hx hb hK hP 3 0 rfl rfl h.1 dX7_isBringing_41 ?_
          have h := h.2
          refine lv_icmp_ge (tgt := 49) hx hb dX7_isBringing_42 (by decide) (fun c_9 => ?_) (fun c_9 => ?_)
          · have h := h.1 c_9
            refine lv_iconst (v := (0 : Int32)) hx hb dX7_isBringing_49 (by decide) ?_
            exact L_50 u_7 (0 : Int32) H locs ls hP hD hS (lv_sub hl [0, 1, 2, 3] rfl) h
          · have h := h.2 c_9
            refine lv_iconst (v := (1 : Int32)) hx hb dX7_isBringing_45 (by decide) ?_
            refine lv_goto (tgt := 50) hx hb dX7_isBringing_46 (by decide) ?_
            exact L_50 u_7 (1 : Int32) H locs ls hP hD hS (lv_sub hl [0, 1, 2, 3] rfl) h
        · have h := h.2 c_8
          refine lv_iconst (v := (0 : Int32)) hx hb dX7_isBringing_28 (by decide) ?_
          exact W.zret (v := (0 : Int32)) hx hb hr rfl (fun t ht hW => ⟨⟨(0 : Int32), u_7, rfl, h, by rw [ht]; exact hP, va_K.moved hW.alike hK, hD⟩, hS.F ht⟩) hS.2.2 dX7_isBringing_29
/-! X7_bringersOf -/
def wp_X7_bringersOf_39 (K5 : St → Int32 → Int32 → Prop) (x1 : Int32) (x2 : Int32) (Q : Int32 → St → Prop) (S0 : St) (x3 : Int32) (x4 : Int32) (y0 : Int32) : Prop := ((y0 = 0) → (K5 S0 (x3 ||| (0 : Int32)) (x4 + 1))) ∧ ((¬ y0 = 0) → (wp_X7_isBringing S0 x4 x1 x2 (fun r_4 u_5 => ((r_4 = 0) → (K5 u_5 (x3 ||| (0 : Int32)) (x4 + 1))) ∧ ((¬ r_4 = 0) → (K5 u_5 (x3 ||| ((1 : Int32) <<< (x4 &&& 31))) (x4 + 1))))))
def wp_X7_bringersOf_5 (x1 : Int32) (x2 : Int32) (Q : Int32 → St → Prop) : Nat → St → Int32 → Int32 → Prop
  | 0, _, _, _ => False
  | n + 1, S0, x3, x4 => (((S0.1 5) ≤ x4) → (Q x3 S0)) ∧ ((¬ (S0.1 5) ≤ x4) → (((¬ (S0.1 6) = (2 : Int32)) → (wp_X7_bringersOf_39 (fun s0 v0 v1 => wp_X7_bringersOf_5 x1 x2 Q n s0 v0 v1) x1 x2 Q S0 x3 x4 (1 : Int32))) ∧ (((S0.1 6) = (2 : Int32)) → (((x1 ≤ x4) → (wp_X7_bringersOf_39 (fun s0 v0 v1 => wp_X7_bringersOf_5 x1 x2 Q n s0 v0 v1) x1 x2 Q S0 x3 x4 (0 : Int32))) ∧ ((¬ x1 ≤ x4) → (((x2 ≤ x4) → (wp_X7_bringersOf_39 (fun s0 v0 v1 => wp_X7_bringersOf_5 x1 x2 Q n s0 v0 v1) x1 x2 Q S0 x3 x4 (0 : Int32))) ∧ ((¬ x2 ≤ x4) → (wp_X7_bringersOf_39 (fun s0 v0 v1 => wp_X7_bringersOf_5 x1 x2 Q n s0 v0 v1) x1 x2 Q S0 x3 x4 (1 : Int32)))))))))
def wp_X7_bringersOf (S0 : St) (x1 : Int32) (x2 : Int32) (Q : Int32 → St → Prop) : Prop := ∃ i, wp_X7_bringersOf_5 x1 x2 Q i S0 (0 : Int32) (0 : Int32)
abbrev rmX7_bringersOf : Room := { frames := 2, cells := 0, slots := 0, locals := 47 }
set_option maxRecDepth 100000 in
set_option maxHeartbeats 4000000 in
theorem c_X7_bringersOf (l : Launch) (D : va_G) (k : Nat → ClassId) (a : Nat → Nat) (S0 : St) (sz : Nat) (x1 : Int32) (x2 : Int32) (Q : Int32 → St → Prop) (h : wp_X7_bringersOf S0 x1 x2 Q) : Met l yX7_bringersOf wsX7_bringersOf rmX7_bringersOf (cPc D k (wMo k a S0) [.ref (a 0), .int x1, .int x2] sz) (va_Qi (fun (r : Int32) (u : St) => Q r u) (cB D k (va_A (wMo k a S0) sz) (fun u : St => wMo k a u)) (va_A (wMo k a S0) sz)) 0 0 (va_A (wMo k a S0) sz) := by
  refine ct_entry (cc := cX7_bringersOf) (maxL := 6) (ret := (some .int)) (Rn := RX7) (Qc := fun A => (va_Qi (fun (r : Int32) (u : St) => Q r u) (cB D k A (fun u : St => wMo k a u)) A)) (by decide) rfl rfl (Nat.le_of_ble_eq_true rfl) ?_
  intro p e s m below meth c hx hb hr hlocks hml hts hown hnw hK A hA H locs hP hD hS ls hl
  have hl : lv_has ls 6 [(0, .ref (a 0)), (1, .int x1), (2, .int x2)] := hl
  have ln_109 := hts (.fieldLink RX7 109 "WithTheSameOneModel" "law" "I") (by decide +kernel)
  have ln_70 := hts (.fieldLink RX7 70 "WithTheSameOneModel" "dancers" "I") (by decide +kernel)
  have in_Mo : ∀ w ∈ wsX70, w ∈ wsX7_bringersOf := fun _ h => List.mem_cons_of_mem _ (List.mem_append_right _ h)
  have L_39 : ∀ (K5 : St → Int32 → Int32 → Prop), (∀ (S0 : St) (x3 : Int32) (x4 : Int32), ∀ (H : Heap) (locs : List Loc) (ls : Array Slot), va_P D vwCl (wMo k a S0) H → va_D A (wMo k a S0) → va_S A s.heap H locs → lv_has ls 6 [(0, .ref (a 0)), (1, .int x1), (2, .int x2), (3, .int x3), (4, .int x4)] → K5 S0 x3 x4 → W p l e rmX7_bringersOf s m ([.ref (a 0), .int x1, .int x2] : List Value).toArray below meth c H locs 0 0 (MQ below (va_Qi (fun (r : Int32) (u : St) => Q r u) (cB D k A (fun u : St => wMo k a u)) A) ([.ref (a 0), .int x1, .int x2] : List Value).toArray s 0 0 A) (F0 m 5 ls [])) → ∀ (S0 : St) (x3 : Int32) (x4 : Int32) (y0 : Int32), ∀ (H : Heap) (locs : List Loc) (ls : Array Slot), va_P D vwCl (wMo k a S0) H → va_D A (wMo k a S0) → va_S A s.heap H locs → lv_has ls 6 [(0, .ref (a 0)), (1, .int x1), (2, .int x2), (3, .int x3), (4, .int x4)] → wp_X7_bringersOf_39 K5 x1 x2 Q S0 x3 x4 y0 → W p l e rmX7_bringersOf s m ([.ref (a 0), .int x1, .int x2] : List Value).toArray below meth c H locs 0 0 (MQ below (va_Qi (fun (r : Int32) (u : St) => Q r u) (cB D k A (fun u : St => wMo k a u)) A) ([.ref (a 0), .int x1, .int x2] : List Value).toArray s 0 0 A) (F0 m 39 ls [.int y0]) := by
    intro K5 hK5 S0 x3 x4 y0 H locs ls hP hD hS hl h
    unfold wp_X7_bringersOf_39 at h
    refine lv_istore (lv' := [(5, .int y0), (0, .ref (a 0)), (1, .int x1), (2, .int x2), (3, .int x3), (4, .int x4)]) hx hb dX7_bringersOf_39 hl (by decide) rfl (fun ls hl => ?_)
    refine lv_iload_n hx hb dX7_bringersOf_41 rfl (lv_at hl 4 rfl) ?_
    refine lv_iload hx hb dX7_bringersOf_42 (lv_at hl 0 rfl) ?_
    refine lv_if_eq (tgt := 65) hx hb dX7_bringersOf_44 (by decide) (fun c_3 => ?_) (fun c_3 => ?_)
    · have h := h.1 c_3
      refine lv_iconst (v := (0 : Int32)) hx hb dX7_bringersOf_65 (by decide) ?_
      refine lv_ior hx hb dX7_bringersOf_66 ?_
      refine lv_istore_n (lv' := [(3, .int (x3 ||| (0 : Int32))), (5, .int y0), (0, .ref (a 0)), (1, .int x1), (2, .int x2), (4, .int x4)]) hx hb dX7_bringersOf_67 rfl hl (by decide) rfl (fun ls hl => ?_)
      refine lv_iinc (v := (x4 + 1)) (lv' := [(4, .int (x4 + 1)), (3, .int (x3 ||| (0 : Int32))), (5, .int y0), (0, .ref (a 0)), (1, .int x1), (2, .int x2)]) hx hb dX7_bringersOf_68 hl (k := 5) rfl rfl (by decide) rfl (fun ls hl => ?_)
      refine lv_goto (tgt := 5) hx hb dX7_bringersOf_71 (by decide) ?_
      exact hK5 S0 (x3 ||| (0 : Int32)) (x4 + 1) H locs ls hP hD hS (lv_sub hl [3, 4, 5, 1, 0] rfl) h
    · have h := h.2 c_3
      refine lv_aload_n hx hb dX7_bringersOf_47 rfl (lv_at hl 1 rfl) ?_
      refine lv_iload hx hb dX7_bringersOf_48 (lv_at hl 5 rfl) ?_
      refine lv_iload_n hx hb dX7_bringersOf_50 rfl (lv_at hl 2 rfl) ?_
      refine lv_iload_n hx hb dX7_bringersOf_51 rfl (lv_at hl 3 rfl) ?_
      have hFc := fr_self hD hS hA
      refine gv_i (va_runV (As := [.int x4, .int x1, .int x2]) (rest := [.int x3]) ⟨hx, hb, hml, hown, hts⟩ (c_X7_isBringing l D k a S0 H.size x4 x1 x2 _ h) (cwV 3 hts gX7_bringersOf_X7_isBringing rfl rfl rfl (by decide +kernel) ⟨Nat.le_of_ble_eq_true rfl, Nat.le_of_ble_eq_true rfl⟩) (gv_preV hK hnw hP hD (ci := 7) rfl 0 rfl) rfl rfl hl.1 rfl (lv_room (Nat.le_of_ble_eq_true rfl)) dX7_bringersOf_52 ⟨Nat.zero_le _, Nat.zero_le _⟩) hS hFc (fun r_4 u_5 H locs h hP1 hD1 hk1 hS => ?_)
      have hP := hP1
      have hD := hD1.weaken (fun _ _ _ z => hFc _ z)
      refine lv_if_eq (tgt := 65) hx hb dX7_bringersOf_55 (by decide) (fun c_6 => ?_) (fun c_6 => ?_)
      · have h := h.1 c_6
        refine lv_iconst (v := (0 : Int32)) hx hb dX7_bringersOf_65 (by decide) ?_
        refine lv_ior hx hb dX7_bringersOf_66 ?_
        refine lv_istore_n (lv' := [(3, .int (x3 ||| (0 : Int32))), (5, .int y0), (0, .ref (a 0)), (1, .int x1), (2, .int x2), (4, .int x4)]) hx hb dX7_bringersOf_67 rfl hl (by decide) rfl (fun ls hl => ?_)
        refine lv_iinc (v := (x4 + 1)) (lv' := [(4, .int (x4 + 1)), (3, .int (x3 ||| (0 : Int32))), (5, .int y0), (0, .ref (a 0)), (1, .int x1), (2, .int x2)]) hx hb dX7_bringersOf_68 hl (k := 5) rfl rfl (by decide) rfl (fun ls hl => ?_)
        refine lv_goto (tgt := 5) hx hb dX7_bringersOf_71 (by decide) ?_
        exact hK5 u_5 (x3 ||| (0 : Int32)) (x4 + 1) H locs ls hP hD hS (lv_sub hl [3, 4, 5, 1, 0] rfl) h
      · have h := h.2 c_6
        refine lv_iconst (v := (1 : Int32)) hx hb dX7_bringersOf_58 (by decide) ?_
        refine lv_iload hx hb dX7_bringersOf_59 (lv_at hl 5 rfl) ?_
        refine lv_ishl hx hb dX7_bringersOf_61 ?_
        refine lv_goto (tgt := 66) hx hb dX7_bringersOf_62 (by decide) ?_
        refine lv_ior hx hb dX7_bringersOf_66 ?_
        refine lv_istore_n (lv' := [(3, .int (x3 ||| ((1 : Int32) <<< (x4 &&& 31)))), (5, .int y0), (0, .ref (a 0)), (1, .int x1), (2, .int x2), (4, .int x4)]) hx hb dX7_bringersOf_67 rfl hl (by decide) rfl (fun ls hl => ?_)
        refine lv_iinc (v := (x4 + 1)) (lv' := [(4, .int (x4 + 1)), (3, .int (x3 ||| ((1 : Int32) <<< (x4 &&& 31)))), (5, .int y0), (0, .ref (a 0)), (1, .int x1), (2, .int x2)]) hx hb dX7_bringersOf_68 hl (k := 5) rfl rfl (by decide) rfl (fun ls hl => ?_)
        refine lv_goto (tgt := 5) hx hb dX7_bringersOf_71 (by decide) ?_
        exact hK5 u_5 (x3 ||| ((1 : Int32) <<< (x4 &&& 31))) (x4 + 1) H locs ls hP hD hS (lv_sub hl [3, 4, 5, 1, 0] rfl) h
  have L_5 : ∀ (n : Nat), ∀ (S0 : St) (x3 : Int32) (x4 : Int32), ∀ (H : Heap) (locs : List Loc) (ls : Array Slot), va_P D vwCl (wMo k a S0) H → va_D A (wMo k a S0) → va_S A s.heap H locs → lv_has ls 6 [(0, .ref (a 0)), (1, .int x1), (2, .int x2), (3, .int x3), (4, .int x4)] → wp_X7_bringersOf_5 x1 x2 Q n S0 x3 x4 → W p l e rmX7_bringersOf s m ([.ref (a 0), .int x1, .int x2] : List Value).toArray below meth c H locs 0 0 (MQ below (va_Qi (fun (r : Int32) (u : St) => Q r u) (cB D k A (fun u : St => wMo k a u)) A) ([.ref (a 0), .int x1, .int x2] : List Value).toArray s 0 0 A) (F0 m 5 ls []) := by
    intro n
    induction n with
    | zero => intro S0 x3 x4 H locs ls hP hD hS hl h; exact absurd h (by unfold wp_X7_bringersOf_5; exact id)
    | succ n ih =>
      intro S0 x3 x4 H locs ls hP hD hS hl h
      unfold wp_X7_bringersOf_5 at h
      refine lv_iload hx hb dX7_bringersOf_5 (lv_at hl 4 rfl) ?_
      refine lv_aload_n hx hb dX7_bringersOf_7 rfl (lv_at hl 0 rfl) ?_
      refine va_get (D := D) (ci := 7) (v := .int (S0.1 5)) (C := RX7) (T := TX7) (N := 33) hx hb hts in_Mo hown hK hP 0 rfl rfl 5 (by decide) ln_70 (fun _ h9 => h9) rfl dX7_bringersOf_8 ?_
      refine lv_icmp_ge (tgt := 74) hx hb dX7_bringersOf_11 (by decide) (fun c_1 => ?_) (fun c_1 => ?_)
      · have h := h.1 c_1
        refine lv_iload_n hx hb dX7_bringersOf_74 rfl (lv_at hl 3 rfl) ?_
        exact W.iret (v := x3) hx hb hr (fun t ht hW => ⟨⟨x3, S0, rfl, h, by rw [ht]; exact hP, va_K.moved hW.alike hK, hD⟩, hS.F ht⟩) hS.2.2 dX7_bringersOf_75
      · have h := h.2 c_1
        refine lv_aload_n hx hb dX7_bringersOf_14 rfl (lv_at hl 0 rfl) ?_
        refine va_get (D := D) (ci := 7) (v := .int (S0.1 6)) (C := RX7) (T := TX7) (N := 33) hx hb hts in_Mo hown hK hP 0 rfl rfl 6 (by decide) ln_109 (fun _ h9 => h9) rfl dX7_bringersOf_15 ?_
        refine lv_iconst (v := (2 : Int32)) hx hb dX7_bringersOf_18 (by decide) ?_
        refine lv_icmp_ne (tgt := 34) hx hb dX7_bringersOf_19 (by decide) (fun c_2 => ?_) (fun c_2 => ?_)
        · have h := h.1 c_2
          refine lv_iconst (v := (1 : Int32)) hx hb dX7_bringersOf_34 (by decide) ?_
          refine lv_goto (tgt := 39) hx hb dX7_bringersOf_35 (by decide) ?_
          exact L_39 (fun s0 v0 v1 => wp_X7_bringersOf_5 x1 x2 Q n s0 v0 v1) ih S0 x3 x4 (1 : Int32) H locs ls hP hD hS (lv_sub hl [0, 1, 2, 3, 4] rfl) h
        · have h := h.2 c_2
          refine lv_iload hx hb dX7_bringersOf_22 (lv_at hl 4 rfl) ?_
          refine lv_iload_n hx hb dX7_bringersOf_24 rfl (lv_at hl 1 rfl) ?_
          refine lv_icmp_ge (tgt := 38) hx hb dX7_bringersOf_25 (by decide) (fun c_7 => ?_) (fun c_7 => ?_)
          · have h := h.1 c_7
            refine lv_iconst (v := (0 : Int32)) hx hb dX7_bringersOf_38 (by decide) ?_
            exact L_39 (fun s0 v0 v1 => wp_X7_bringersOf_5 x1 x2 Q n s0 v0 v1) ih S0 x3 x4 (0 : Int32) H locs ls hP hD hS (lv_sub hl [0, 1, 2, 3, 4] rfl) h
          · have h := h.2 c_7
            refine lv_iload hx hb dX7_bringersOf_28 (lv_at hl 4 rfl) ?_
            refine lv_iload_n hx hb dX7_bringersOf_30 rfl (lv_at hl 2 rfl) ?_
            refine lv_icmp_ge (tgt := 38) hx hb dX7_bringersOf_31 (by decide) (fun c_8 => ?_) (fun c_8 => ?_)
            · have h := h.1 c_8
              refine lv_iconst (v := (0 : Int32)) hx hb dX7_bringersOf_38 (by decide) ?_
              exact L_39 (fun s0 v0 v1 => wp_X7_bringersOf_5 x1 x2 Q n s0 v0 v1) ih S0 x3 x4 (0 : Int32) H locs ls hP hD hS (lv_sub hl [0, 1, 2, 3, 4] rfl) h
            · have h := h.2 c_8
              refine lv_iconst (v := (1 : Int32)) hx hb dX7_bringersOf_34 (by decide) ?_
              refine lv_goto (tgt := 39) hx hb dX7_bringersOf_35 (by decide) ?_
              exact L_39 (fun s0 v0 v1 => wp_X7_bringersOf_5 x1 x2 Q n s0 v0 v1) ih S0 x3 x4 (1 : Int32) H locs ls hP hD hS (lv_sub hl [0, 1, 2, 3, 4] rfl) h
  unfold wp_X7_bringersOf at h
  refine lv_iconst (v := (0 : Int32)) hx hb dX7_bringersOf_0 (by decide) ?_
  refine lv_istore_n (lv' := [(3, .int (0 : Int32)), (0, .ref (a 0)), (1, .int x1), (2, .int x2)]) hx hb dX7_bringersOf_1 rfl hl (by decide) rfl (fun ls hl => ?_)
  refine lv_iconst (v := (0 : Int32)) hx hb dX7_bringersOf_2 (by decide) ?_
  refine lv_istore (lv' := [(4, .int (0 : Int32)), (3, .int (0 : Int32)), (0, .ref (a 0)), (1, .int x1), (2, .int x2)]) hx hb dX7_bringersOf_3 hl (by decide) rfl (fun ls hl => ?_)
  obtain ⟨n_9, h⟩ := h
  exact L_5 n_9 S0 (0 : Int32) (0 : Int32) H locs ls hP hD hS (lv_sub hl [2, 3, 4, 1, 0] rfl) h
/-! X7_areCousins -/
def wp_X7_areCousins (S0 : St) (x1 : Int32) (x2 : Int32) (Q : Int32 → St → Prop) : Prop := vp_in x1 8 ∧ (((¬ (S0.2 1 x1.toNatClampNeg) = (3 : Int32)) → (Q (0 : Int32) S0)) ∧ (((S0.2 1 x1.toNatClampNeg) = (3 : Int32)) → (vp_in x2 8 ∧ (((¬ (S0.2 1 x2.toNatClampNeg) = (3 : Int32)) → (Q (0 : Int32) S0)) ∧ (((S0.2 1 x2.toNatClampNeg) = (3 : Int32)) → (vp_in x1 8 ∧ (vp_in x2 8 ∧ (((¬ (S0.2 2 x1.toNatClampNeg) = (S0.2 2 x2.toNatClampNeg)) → (Q (0 : Int32) S0)) ∧ (((S0.2 2 x1.toNatClampNeg) = (S0.2 2 x2.toNatClampNeg)) → (Q (1 : Int32) S0))))))))))
abbrev rmX7_areCousins : Room := { frames := 0, cells := 0, slots := 0, locals := 0 }
set_option maxRecDepth 100000 in
set_option maxHeartbeats 4000000 in
theorem c_X7_areCousins (l : Launch) (D : va_G) (k : Nat → ClassId) (a : Nat → Nat) (S0 : St) (sz : Nat) (x1 : Int32) (x2 : Int32) (Q : Int32 → St → Prop) (h : wp_X7_areCousins S0 x1 x2 Q) : Met l yX7_areCousins wsX7_areCousins rmX7_areCousins (cPc D k (wMo k a S0) [.ref (a 0), .int x1, .int x2] sz) (va_Qi (fun (r : Int32) (u : St) => Q r u) (cB D k (va_A (wMo k a S0) sz) (fun u : St => wMo k a u)) (va_A (wMo k a S0) sz)) 0 0 (va_A (wMo k a S0) sz) := by
  refine ct_entry (cc := cX7_areCousins) (maxL := 3) (ret := (some .boolean)) (Rn := RX7) (Qc := fun A => (va_Qi (fun (r : Int32) (u : St) => Q r u) (cB D k A (fun u : St => wMo k a u)) A)) (by decide) rfl rfl (Nat.le_of_ble_eq_true rfl) ?_
  intro p e s m below meth c hx hb hr hlocks hml hts hown hnw hK A hA H locs hP hD hS ls hl
  have hl : lv_has ls 3 [(0, .ref (a 0)), (1, .int x1), (2, .int x2)] := hl
  have ln_13 := hts (.fieldLink RX7 13 "WithTheSameOneModel" "kind" "[I") (by decide +kernel)
  have ln_16 := hts (.fieldLink RX7 16 "WithTheSameOneModel" "figure" "[I") (by decide +kernel)
  have in_Mo : ∀ w ∈ wsX70, w ∈ wsX7_areCousins := fun _ h => List.mem_cons_of_mem _ (List.mem_append_right _ h)
  unfold wp_X7_areCousins at h
  refine lv_aload_n hx hb dX7_areCousins_0 rfl (lv_at hl 0 rfl) ?_
  refine va_get (D := D) (ci := 7) (v := .ref (a 2)) (C := RX7) (T := TX7) (N := 33) hx hb hts in_Mo hown hK hP 0 rfl rfl 1 (by decide) ln_13 (fun _ h9 => h9) rfl dX7_areCousins_1 ?_
  refine lv_iload_n hx hb dX7_areCousins_4 rfl (lv_at hl 1 rfl) ?_
  refine va_iald hx hb hK hP 2 0 rfl rfl h.1 dX7_areCousins_5 ?_
  have h := h.2
  refine lv_iconst (v := (3 : Int32)) hx hb dX7_areCousins_6 (by decide) ?_
  refine lv_icmp_ne (tgt := 39) hx hb dX7_areCousins_7 (by decide) (fun c_1 => ?_) (fun c_1 => ?_)
  · have h := h.1 c_1
    refine lv_iconst (v := (0 : Int32)) hx hb dX7_areCousins_39 (by decide) ?_
    exact W.zret (v := (0 : Int32)) hx hb hr rfl (fun t ht hW => ⟨⟨(0 : Int32), S0, rfl, h, by rw [ht]; exact hP, va_K.moved hW.alike hK, hD⟩, hS.F ht⟩) hS.2.2 dX7_areCousins_40
  · have h := h.2 c_1
    refine lv_aload_n hx hb dX7_areCousins_10 rfl (lv_at hl 0 rfl) ?_
    refine va_get (D := D) (ci := 7) (v := .ref (a 2)) (C := RX7) (T := TX7) (N := 33) hx hb hts in_Mo hown hK hP 0 rfl rfl 1 (by decide) ln_13 (fun _ h9 => h9) rfl dX7_areCousins_11 ?_
    refine lv_iload_n hx hb dX7_areCousins_14 rfl (lv_at hl 2 rfl) ?_
    refine va_iald hx hb hK hP 2 0 rfl rfl h.1 dX7_areCousins_15 ?_
    have h := h.2
    refine lv_iconst (v := (3 : Int32)) hx hb dX7_areCousins_16 (by decide) ?_
    refine lv_icmp_ne (tgt := 39) hx hb dX7_areCousins_17 (by decide) (fun c_2 => ?_) (fun c_2 => ?_)
    · have h := h.1 c_2
      refine lv_iconst (v := (0 : Int32)) hx hb dX7_areCousins_39 (by decide) ?_
      exact W.zret (v := (0 : Int32)) hx hb hr rfl (fun t ht hW => ⟨⟨(0 : Int32), S0, rfl, h, by rw [ht]; exact hP, va_K.moved hW.alike hK, hD⟩, hS.F ht⟩) hS.2.2 dX7_areCousins_40
    · have h := h.2 c_2
      refine lv_aload_n hx hb dX7_areCousins_20 rfl (lv_at hl 0 rfl) ?_
      refine va_get (D := D) (ci := 7) (v := .ref (a 3)) (C := RX7) (T := TX7) (N := 33) hx hb hts in_Mo hown hK hP 0 rfl rfl 2 (by decide) ln_16 (fun _ h9 => h9) rfl dX7_areCousins_21 ?_
      refine lv_iload_n hx hb dX7_areCousins_24 rfl (lv_at hl 1 rfl) ?_
      refine va_iald hx hb hK hP 3 0 rfl rfl h.1 dX7_areCousins_25 ?_
      have h := h.2
      refine lv_aload_n hx hb dX7_areCousins_26 rfl (lv_at hl 0 rfl) ?_
      refine va_get (D := D) (ci := 7) (v := .ref (a 3)) (C := RX7) (T := TX7) (N := 33) hx hb hts in_Mo hown hK hP 0 rfl rfl 2 (by decide) ln_16 (fun _ h9 => h9) rfl dX7_areCousins_27 ?_
      refine lv_iload_n hx hb dX7_areCousins_30 rfl (lv_at hl 2 rfl) ?_
      refine va_iald hx hb hK hP 3 0 rfl rfl h.1 dX7_areCousins_31 ?_
      have h := h.2
      refine lv_icmp_ne (tgt := 39) hx hb dX7_areCousins_32 (by decide) (fun c_3 => ?_) (fun c_3 => ?_)
      · have h := h.1 c_3
        refine lv_iconst (v := (0 : Int32)) hx hb dX7_areCousins_39 (by decide) ?_
        exact W.zret (v := (0 : Int32)) hx hb hr rfl (fun t ht hW => ⟨⟨(0 : Int32), S0, rfl, h, by rw [ht]; exact hP, va_K.moved hW.alike hK, hD⟩, hS.F ht⟩) hS.2.2 dX7_areCousins_40
      · have h := h.2 c_3
        refine lv_iconst (v := (1 : Int32)) hx hb dX7_areCousins_35 (by decide) ?_
        refine lv_goto (tgt := 40) hx hb dX7_areCousins_36 (by decide) ?_
        exact W.zret (v := (1 : Int32)) hx hb hr rfl (fun t ht hW => ⟨⟨(1 : Int32), S0, rfl, h, by rw [ht]; exact hP, va_K.moved hW.alike hK, hD⟩, hS.F ht⟩) hS.2.2 dX7_areCousins_40
/-! X7_mayDance -/
def wp_X7_mayDance (S0 : St) (x1 : Int32) (x2 : Int32) (Q : Int32 → St → Prop) : Prop := wp_X7_haveDanced S0 x1 x2 (fun r_1 u_2 => ((¬ r_1 = 0) → (Q (0 : Int32) u_2)) ∧ ((r_1 = 0) → (wp_X7_areCousins u_2 x1 x2 (fun r_4 u_5 => ((¬ r_4 = 0) → (Q (1 : Int32) u_5)) ∧ ((r_4 = 0) → (wp_X7_bringersOf u_5 x1 x2 (fun r_7 u_8 => wp_X7_bits r_7 (fun r_9 => ((¬ (u_8.1 6) = (1 : Int32)) → (((r_9 < (1 : Int32)) → (Q (0 : Int32) u_8)) ∧ ((¬ r_9 < (1 : Int32)) → (Q (1 : Int32) u_8)))) ∧ (((u_8.1 6) = (1 : Int32)) → (((r_9 < (2 : Int32)) → (Q (0 : Int32) u_8)) ∧ ((¬ r_9 < (2 : Int32)) → (Q (1 : Int32) u_8))))))))))))
abbrev rmX7_mayDance : Room := { frames := 3, cells := 0, slots := 0, locals := 72 }
set_option maxRecDepth 100000 in
set_option maxHeartbeats 4000000 in
theorem c_X7_mayDance (l : Launch) (D : va_G) (k : Nat → ClassId) (a : Nat → Nat) (S0 : St) (sz : Nat) (x1 : Int32) (x2 : Int32) (Q : Int32 → St → Prop) (h : wp_X7_mayDance S0 x1 x2 Q) : Met l yX7_mayDance wsX7_mayDance rmX7_mayDance (cPc D k (wMo k a S0) [.ref (a 0), .int x1, .int x2] sz) (va_Qi (fun (r : Int32) (u : St) => Q r u) (cB D k (va_A (wMo k a S0) sz) (fun u : St => wMo k a u)) (va_A (wMo k a S0) sz)) 0 0 (va_A (wMo k a S0) sz) := by
  refine ct_entry (cc := cX7_mayDance) (maxL := 3) (ret := (some .boolean)) (Rn := RX7) (Qc := fun A => (va_Qi (fun (r : Int32) (u : St) => Q r u) (cB D k A (fun u : St => wMo k a u)) A)) (by decide) rfl rfl (Nat.le_of_ble_eq_true rfl) ?_
  intro p e s m below meth c hx hb hr hlocks hml hts hown hnw hK A hA H locs hP hD hS ls hl
  have hl : lv_has ls 3 [(0, .ref (a 0)), (1, .int x1), (2, .int x2)] := hl
  have ln_109 := hts (.fieldLink RX7 109 "WithTheSameOneModel" "law" "I") (by decide +kernel)
  have in_Mo : ∀ w ∈ wsX70, w ∈ wsX7_mayDance := fun _ h => List.mem_cons_of_mem _ (List.mem_append_right _ h)
  unfold wp_X7_mayDance at h
  refine lv_aload_n hx hb dX7_mayDance_0 rfl (lv_at hl 0 rfl) ?_
  refine lv_iload_n hx hb dX7_mayDance_1 rfl (lv_at hl 1 rfl) ?_
  refine lv_iload_n hx hb dX7_mayDance_2 rfl (lv_at hl 2 rfl) ?_
  have hFc := fr_self hD hS hA
  refine gv_i (va_runV (As := [.int x1, .int x2]) (rest := []) ⟨hx, hb, hml, hown, hts⟩ (c_X7_haveDanced l D k a S0 H.size x1 x2 _ h) (cwV 2 hts gX7_mayDance_X7_haveDanced rfl rfl rfl (by decide +kernel) ⟨Nat.le_of_ble_eq_true rfl, Nat.le_of_ble_eq_true rfl⟩) (gv_preV hK hnw hP hD (ci := 7) rfl 0 rfl) rfl rfl hl.1 rfl (lv_room (Nat.le_of_ble_eq_true rfl)) dX7_mayDance_3 ⟨Nat.zero_le _, Nat.zero_le _⟩) hS hFc (fun r_1 u_2 H locs h hP1 hD1 hk1 hS => ?_)
  have hP := hP1
  have hD := hD1.weaken (fun _ _ _ z => hFc _ z)
  refine lv_if_ne (tgt := 47) hx hb dX7_mayDance_6 (by decide) (fun c_3 => ?_) (fun c_3 => ?_)
  · have h := h.1 c_3
    refine lv_iconst (v := (0 : Int32)) hx hb dX7_mayDance_47 (by decide) ?_
    exact W.zret (v := (0 : Int32)) hx hb hr rfl (fun t ht hW => ⟨⟨(0 : Int32), u_2, rfl, h, by rw [ht]; exact hP, va_K.moved hW.alike hK, hD⟩, hS.F ht⟩) hS.2.2 dX7_mayDance_48
  · have h := h.2 c_3
    refine lv_aload_n hx hb dX7_mayDance_9 rfl (lv_at hl 0 rfl) ?_
    refine lv_iload_n hx hb dX7_mayDance_10 rfl (lv_at hl 1 rfl) ?_
    refine lv_iload_n hx hb dX7_mayDance_11 rfl (lv_at hl 2 rfl) ?_
    have hFc := fr_self hD hS hA
    refine gv_i (va_runV (As := [.int x1, .int x2]) (rest := []) ⟨hx, hb, hml, hown, hts⟩ (c_X7_areCousins l D k a u_2 H.size x1 x2 _ h) (cwV 2 hts gX7_mayDance_X7_areCousins rfl rfl rfl (by decide +kernel) ⟨Nat.le_of_ble_eq_true rfl, Nat.le_of_ble_eq_true rfl⟩) (gv_preV hK hnw hP hD (ci := 7) rfl 0 rfl) rfl rfl hl.1 rfl (lv_room (Nat.le_of_ble_eq_true rfl)) dX7_mayDance_12 ⟨Nat.zero_le _, Nat.zero_le _⟩) hS hFc (fun r_4 u_5 H locs h hP1 hD1 hk1 hS => ?_)
    have hP := hP1
    have hD := hD1.weaken (fun _ _ _ z => hFc _ z)
    refine lv_if_ne (tgt := 43) hx hb dX7_mayDance_15 (by decide) (fun c_6 => ?_) (fun c_6 => ?_)
    · have h := h.1 c_6
      refine lv_iconst (v := (1 : Int32)) hx hb dX7_mayDance_43 (by decide) ?_
      refine lv_goto (tgt := 48) hx hb dX7_mayDance_44 (by decide) ?_
      exact W.zret (v := (1 : Int32)) hx hb hr rfl (fun t ht hW => ⟨⟨(1 : Int32), u_5, rfl, h, by rw [ht]; exact hP, va_K.moved hW.alike hK, hD⟩, hS.F ht⟩) hS.2.2 dX7_mayDance_48
    · have h := h.2 c_6
      refine lv_aload_n hx hb dX7_mayDance_18 rfl (lv_at hl 0 rfl) ?_
      refine lv_iload_n hx hb dX7_mayDance_19 rfl (lv_at hl 1 rfl) ?_
      refine lv_iload_n hx hb dX7_mayDance_20 rfl (lv_at hl 2 rfl) ?_
      have hFc := fr_self hD hS hA
      refine gv_i (va_runV (As := [.int x1, .int x2]) (rest := []) ⟨hx, hb, hml, hown, hts⟩ (c_X7_bringersOf l D k a u_5 H.size x1 x2 _ h) (cwV 2 hts gX7_mayDance_X7_bringersOf rfl rfl rfl (by decide +kernel) ⟨Nat.le_of_ble_eq_true rfl, Nat.le_of_ble_eq_true rfl⟩) (gv_preV hK hnw hP hD (ci := 7) rfl 0 rfl) rfl rfl hl.1 rfl (lv_room (Nat.le_of_ble_eq_true rfl)) dX7_mayDance_21 ⟨Nat.zero_le _, Nat.zero_le _⟩) hS hFc (fun r_7 u_8 H locs h hP1 hD1 hk1 hS => ?_)
      have hP := hP1
      have hD := hD1.weaken (fun _ _ _ z => hFc _ z)
      refine gs_i (va_runS (As := [.int r_7]) (rest := []) ⟨hx, hb, hml, hown, hts⟩ (c_X7_bits l r_7 _ h) (va_cwS 1 hts gX7_mayDance_X7_bits rfl rfl rfl (by decide +kernel) ⟨Nat.le_of_ble_eq_true rfl, Nat.le_of_ble_eq_true rfl⟩) preEq rfl rfl hl.1 rfl (lv_room (Nat.le_of_ble_eq_true rfl)) dX7_mayDance_24 ⟨Nat.zero_le _, Nat.zero_le _⟩) (fun r_9 h => ?_)
      refine lv_aload_n hx hb dX7_mayDance_27 rfl (lv_at hl 0 rfl) ?_
      refine va_get (D := D) (ci := 7) (v := .int (u_8.1 6)) (C := RX7) (T := TX7) (N := 33) hx hb hts in_Mo hown hK hP 0 rfl rfl 6 (by decide) ln_109 (fun _ h9 => h9) rfl dX7_mayDance_28 ?_
      refine lv_iconst (v := (1 : Int32)) hx hb dX7_mayDance_31 (by decide) ?_
      refine lv_icmp_ne (tgt := 39) hx hb dX7_mayDance_32 (by decide) (fun c_10 => ?_) (fun c_10 => ?_)
      · have h := h.1 c_10
        refine lv_iconst (v := (1 : Int32)) hx hb dX7_mayDance_39 (by decide) ?_
        refine lv_icmp_lt (tgt := 47) hx hb dX7_mayDance_40 (by decide) (fun c_11 => ?_) (fun c_11 => ?_)
        · have h := h.1 c_11
          refine lv_iconst (v := (0 : Int32)) hx hb dX7_mayDance_47 (by decide) ?_
          exact W.zret (v := (0 : Int32)) hx hb hr rfl (fun t ht hW => ⟨⟨(0 : Int32), u_8, rfl, h, by rw [ht]; exact hP, va_K.moved hW.alike hK, hD⟩, hS.F ht⟩) hS.2.2 dX7_mayDance_48
        · have h := h.2 c_11
          refine lv_iconst (v := (1 : Int32)) hx hb dX7_mayDance_43 (by decide) ?_
          refine lv_goto (tgt := 48) hx hb dX7_mayDance_44 (by decide) ?_
          exact W.zret (v := (1 : Int32)) hx hb hr rfl (fun t ht hW => ⟨⟨(1 : Int32), u_8, rfl, h, by rw [ht]; exact hP, va_K.moved hW.alike hK, hD⟩, hS.F ht⟩) hS.2.2 dX7_mayDance_48
      · have h := h.2 c_10
        refine lv_iconst (v := (2 : Int32)) hx hb dX7_mayDance_35 (by decide) ?_
        refine lv_goto (tgt := 40) hx hb dX7_mayDance_36 (by decide) ?_
        refine lv_icmp_lt (tgt := 47) hx hb dX7_mayDance_40 (by decide) (fun c_12 => ?_) (fun c_12 => ?_)
        · have h := h.1 c_12
          refine lv_iconst (v := (0 : Int32)) hx hb dX7_mayDance_47 (by decide) ?_
          exact W.zret (v := (0 : Int32)) hx hb hr rfl (fun t ht hW => ⟨⟨(0 : Int32), u_8, rfl, h, by rw [ht]; exact hP, va_K.moved hW.alike hK, hD⟩, hS.F ht⟩) hS.2.2 dX7_mayDance_48
        · have h := h.2 c_12
          refine lv_iconst (v := (1 : Int32)) hx hb dX7_mayDance_43 (by decide) ?_
          refine lv_goto (tgt := 48) hx hb dX7_mayDance_44 (by decide) ?_
          exact W.zret (v := (1 : Int32)) hx hb hr rfl (fun t ht hW => ⟨⟨(1 : Int32), u_8, rfl, h, by rw [ht]; exact hP, va_K.moved hW.alike hK, hD⟩, hS.F ht⟩) hS.2.2 dX7_mayDance_48
/-! X7_lowest -/
def wp_X7_lowest_2 (x0 : Int32) (Q : Int32 → Prop) : Nat → Int32 → Prop
  | 0, _ => False
  | n + 1, x1 => ((¬ ((x0 >>> (x1 &&& 31)) &&& (1 : Int32)) = 0) → (Q x1)) ∧ ((((x0 >>> (x1 &&& 31)) &&& (1 : Int32)) = 0) → (wp_X7_lowest_2 x0 Q n (x1 + 1)))
def wp_X7_lowest (x0 : Int32) (Q : Int32 → Prop) : Prop := ∃ i, wp_X7_lowest_2 x0 Q i (0 : Int32)
abbrev rmX7_lowest : Room := { frames := 0, cells := 0, slots := 0, locals := 0 }
set_option maxRecDepth 100000 in
set_option maxHeartbeats 4000000 in
theorem c_X7_lowest (l : Launch) (x0 : Int32) (Q : Int32 → Prop) (h : wp_X7_lowest x0 Q) : Met l yX7_lowest wsX7_lowest rmX7_lowest (fun v _ => v = ([.int x0] : List Value).toArray) (vp_Si Q) 0 0 (fun _ => False) := by
  refine cs_entry (cc := cX7_lowest) (maxL := 2) (ret := (some .int)) (Rn := RX7) (by decide) rfl rfl (Nat.le_of_ble_eq_true rfl) ?_
  intro p e s m below meth c hx hb hr hlocks hml hts hown ls hl
  have hl : lv_has ls 2 [(0, .int x0)] := hl
  have L_2 : ∀ (n : Nat), ∀ (x1 : Int32), ∀ (ls : Array Slot), lv_has ls 2 [(0, .int x0), (1, .int x1)] → wp_X7_lowest_2 x0 Q n x1 → W p l e rmX7_lowest s m ([.int x0] : List Value).toArray below meth c s.heap [] 0 0 (MQ below (vp_Si Q) ([.int x0] : List Value).toArray s 0 0 (fun _ => False)) (F0 m 2 ls []) := by
    intro n
    induction n with
    | zero => intro x1 ls hl h; exact absurd h (by unfold wp_X7_lowest_2; exact id)
    | succ n ih =>
      intro x1 ls hl h
      unfold wp_X7_lowest_2 at h
      refine lv_iload_n hx hb dX7_lowest_2 rfl (lv_at hl 0 rfl) ?_
      refine lv_iload_n hx hb dX7_lowest_3 rfl (lv_at hl 1 rfl) ?_
      refine lv_ishr hx hb dX7_lowest_4 ?_
      refine lv_iconst (v := (1 : Int32)) hx hb dX7_lowest_5 (by decide) ?_
      refine lv_iand hx hb dX7_lowest_6 ?_
      refine lv_if_ne (tgt := 16) hx hb dX7_lowest_7 (by decide) (fun c_1 => ?_) (fun c_1 => ?_)
      · have h := h.1 c_1
        refine lv_iload_n hx hb dX7_lowest_16 rfl (lv_at hl 1 rfl) ?_
        exact W.iret (v := x1) hx hb hr (fun t ht hW => ⟨x1, rfl, h, ht⟩) (fun q hq => by cases hq) dX7_lowest_17
      · have h := h.2 c_1
        refine lv_iinc (v := (x1 + 1)) (lv' := [(1, .int (x1 + 1)), (0, .int x0)]) hx hb dX7_lowest_10 hl (k := 1) rfl rfl (by decide) rfl (fun ls hl => ?_)
        refine lv_goto (tgt := 2) hx hb dX7_lowest_13 (by decide) ?_
        exact ih (x1 + 1) ls (lv_sub hl [1, 0] rfl) h
  unfold wp_X7_lowest at h
  refine lv_iconst (v := (0 : Int32)) hx hb dX7_lowest_0 (by decide) ?_
  refine lv_istore_n (lv' := [(1, .int (0 : Int32)), (0, .int x0)]) hx hb dX7_lowest_1 rfl hl (by decide) rfl (fun ls hl => ?_)
  obtain ⟨n_2, h⟩ := h
  exact L_2 n_2 (0 : Int32) ls (lv_sub hl [1, 0] rfl) h
/-! X7_dances -/
def wp_X7_dances (S0 : St) (x1 : Int32) (x2 : Int32) (x3 : Int32) (Q : St → Prop) : Prop := ((x3 = (9 : Int32)) → (wp_X7_joins S0 x1 x2 (fun u_3 => Q u_3))) ∧ ((¬ x3 = (9 : Int32)) → (wp_X7_bringersOf S0 x1 x2 (fun r_4 u_5 => ∀ z_6 : Int32, z_6 = (r_4 &&& (((1 : Int32) <<< (x3 &&& 31)) ^^^ (-1 : Int32))) → (vp_in x3 8 ∧ (vp_in x3 8 ∧ (∀ S_8, S_8 = (sA u_5 3 x3.toNatClampNeg ((u_5.2 3 x3.toNatClampNeg) + (1 : Int32))) → (((¬ (S_8.1 6) = (1 : Int32)) → (wp_X7_joins S_8 x1 x2 (fun u_12 => Q u_12))) ∧ (((S_8.1 6) = (1 : Int32)) → (((z_6 = 0) → (wp_X7_joins S_8 x1 x2 (fun u_15 => Q u_15))) ∧ ((¬ z_6 = 0) → (wp_X7_lowest z_6 (fun r_16 => vp_in r_16 8 ∧ (vp_in r_16 8 ∧ (∀ S_17, S_17 = (sA S_8 3 r_16.toNatClampNeg ((S_8.2 3 r_16.toNatClampNeg) + (1 : Int32))) → (wp_X7_joins S_17 x1 x2 (fun u_20 => Q u_20))))))))))))))))
abbrev rmX7_dances : Room := { frames := 3, cells := 0, slots := 0, locals := 72 }
set_option maxRecDepth 100000 in
set_option maxHeartbeats 4000000 in
theorem c_X7_dances (l : Launch) (D : va_G) (k : Nat → ClassId) (a : Nat → Nat) (S0 : St) (sz : Nat) (x1 : Int32) (x2 : Int32) (x3 : Int32) (Q : St → Prop) (h : wp_X7_dances S0 x1 x2 x3 Q) : Met l yX7_dances wsX7_dances rmX7_dances (cPc D k (wMo k a S0) [.ref (a 0), .int x1, .int x2, .int x3] sz) (va_Qv (fun (u : St) => Q u) (cB D k (va_A (wMo k a S0) sz) (fun u : St => wMo k a u)) (va_A (wMo k a S0) sz)) 0 0 (va_A (wMo k a S0) sz) := by
  refine ct_entry (cc := cX7_dances) (maxL := 5) (ret := none) (Rn := RX7) (Qc := fun A => (va_Qv (fun (u : St) => Q u) (cB D k A (fun u : St => wMo k a u)) A)) (by decide) rfl rfl (Nat.le_of_ble_eq_true rfl) ?_
  intro p e s m below meth c hx hb hr hlocks hml hts hown hnw hK A hA H locs hP hD hS ls hl
  have hl : lv_has ls 5 [(0, .ref (a 0)), (1, .int x1), (2, .int x2), (3, .int x3)] := hl
  have ln_109 := hts (.fieldLink RX7 109 "WithTheSameOneModel" "law" "I") (by decide +kernel)
  have ln_19 := hts (.fieldLink RX7 19 "WithTheSameOneModel" "brought" "[I") (by decide +kernel)
  have in_Mo : ∀ w ∈ wsX70, w ∈ wsX7_dances := fun _ h => List.mem_cons_of_mem _ (List.mem_append_right _ h)
  unfold wp_X7_dances at h
  refine lv_iload_n hx hb dX7_dances_0 rfl (lv_at hl 3 rfl) ?_
  refine lv_bipush (v := (9 : Int32)) hx hb dX7_dances_1 (by decide) ?_
  refine lv_icmp_eq (tgt := 57) hx hb dX7_dances_3 (by decide) (fun c_1 => ?_) (fun c_1 => ?_)
  · have h := h.1 c_1
    refine lv_aload_n hx hb dX7_dances_57 rfl (lv_at hl 0 rfl) ?_
    refine lv_iload_n hx hb dX7_dances_58 rfl (lv_at hl 1 rfl) ?_
    refine lv_iload_n hx hb dX7_dances_59 rfl (lv_at hl 2 rfl) ?_
    have hFc := fr_self hD hS hA
    refine gv_v (va_runV (As := [.int x1, .int x2]) (rest := []) ⟨hx, hb, hml, hown, hts⟩ (c_X7_joins l D k a S0 H.size x1 x2 _ h) (cwV 2 hts gX7_dances_X7_joins rfl rfl rfl (by decide +kernel) ⟨Nat.le_of_ble_eq_true rfl, Nat.le_of_ble_eq_true rfl⟩) (gv_preV hK hnw hP hD (ci := 7) rfl 0 rfl) rfl rfl hl.1 rfl (lv_room (Nat.le_of_ble_eq_true rfl)) dX7_dances_60 ⟨Nat.zero_le _, Nat.zero_le _⟩) hS hFc (fun u_3 H locs h hP1 hD1 hk1 hS => ?_)
    have hP := hP1
    have hD := hD1.weaken (fun _ _ _ z => hFc _ z)
    exact W.vret hx hb hr (fun t ht hW => ⟨⟨u_3, rfl, h, by rw [ht]; exact hP, va_K.moved hW.alike hK, hD⟩, hS.F ht⟩) hS.2.2 dX7_dances_63
  · have h := h.2 c_1
    refine lv_aload_n hx hb dX7_dances_6 rfl (lv_at hl 0 rfl) ?_
    refine lv_iload_n hx hb dX7_dances_7 rfl (lv_at hl 1 rfl) ?_
    refine lv_iload_n hx hb dX7_dances_8 rfl (lv_at hl 2 rfl) ?_
    have hFc := fr_self hD hS hA
    refine gv_i (va_runV (As := [.int x1, .int x2]) (rest := []) ⟨hx, hb, hml, hown, hts⟩ (c_X7_bringersOf l D k a S0 H.size x1 x2 _ h) (cwV 2 hts gX7_dances_X7_bringersOf rfl rfl rfl (by decide +kernel) ⟨Nat.le_of_ble_eq_true rfl, Nat.le_of_ble_eq_true rfl⟩) (gv_preV hK hnw hP hD (ci := 7) rfl 0 rfl) rfl rfl hl.1 rfl (lv_room (Nat.le_of_ble_eq_true rfl)) dX7_dances_9 ⟨Nat.zero_le _, Nat.zero_le _⟩) hS hFc (fun r_4 u_5 H locs h hP1 hD1 hk1 hS => ?_)
    have hP := hP1
    have hD := hD1.weaken (fun _ _ _ z => hFc _ z)
    refine lv_iconst (v := (1 : Int32)) hx hb dX7_dances_12 (by decide) ?_
    refine lv_iload_n hx hb dX7_dances_13 rfl (lv_at hl 3 rfl) ?_
    refine lv_ishl hx hb dX7_dances_14 ?_
    refine lv_iconst (v := (-1 : Int32)) hx hb dX7_dances_15 (by decide) ?_
    refine lv_ixor hx hb dX7_dances_16 ?_
    refine lv_iand hx hb dX7_dances_17 ?_
    refine lv_topi (fun z_6 e_7 => ?_)
    have h := h z_6 e_7
    refine lv_istore (lv' := [(4, .int z_6), (0, .ref (a 0)), (1, .int x1), (2, .int x2), (3, .int x3)]) hx hb dX7_dances_18 hl (by decide) rfl (fun ls hl => ?_)
    refine lv_aload_n hx hb dX7_dances_20 rfl (lv_at hl 1 rfl) ?_
    refine va_get (D := D) (ci := 7) (v := .ref (a 4)) (C := RX7) (T := TX7) (N := 33) hx hb hts in_Mo hown hK hP 0 rfl rfl 3 (by decide) ln_19 (fun _ h9 => h9) rfl dX7_dances_21 ?_
    refine lv_iload_n hx hb dX7_dances_24 rfl (lv_at hl 4 rfl) ?_
    refine lv_dup2_11 hx hb dX7_dances_25 rfl rfl ?_
    refine va_iald hx hb hK hP 4 0 rfl rfl h.1 dX7_dances_26 ?_
    have h := h.2
    refine lv_iconst (v := (1 : Int32)) hx hb dX7_dances_27 (by decide) ?_
    refine lv_iadd hx hb dX7_dances_28 ?_
    refine va_iast hx hb hK hP hD hS 4 0 rfl rfl h.1 dX7_dances_29 (fun H locs hP hD hS => ?_)
    have h := h.2
    obtain ⟨S_8, e_9⟩ : ∃ z : St, z = (sA u_5 3 x3.toNatClampNeg ((u_5.2 3 x3.toNatClampNeg) + (1 : Int32))) := ⟨_, rfl⟩
    have h := h S_8 e_9
    have hP : va_P D vwCl (wMo k a S_8) H := by rw [e_9]; exact hP
    have hD : va_D A (wMo k a S_8) := by rw [e_9]; exact hD
    refine lv_aload_n hx hb dX7_dances_30 rfl (lv_at hl 1 rfl) ?_
    refine va_get (D := D) (ci := 7) (v := .int (S_8.1 6)) (C := RX7) (T := TX7) (N := 33) hx hb hts in_Mo hown hK hP 0 rfl rfl 6 (by decide) ln_109 (fun _ h9 => h9) rfl dX7_dances_31 ?_
    refine lv_iconst (v := (1 : Int32)) hx hb dX7_dances_34 (by decide) ?_
    refine lv_icmp_ne (tgt := 57) hx hb dX7_dances_35 (by decide) (fun c_10 => ?_) (fun c_10 => ?_)
    · have h := h.1 c_10
      refine lv_aload_n hx hb dX7_dances_57 rfl (lv_at hl 1 rfl) ?_
      refine lv_iload_n hx hb dX7_dances_58 rfl (lv_at hl 2 rfl) ?_
      refine lv_iload_n hx hb dX7_dances_59 rfl (lv_at hl 3 rfl) ?_
      have hFc := fr_self hD hS hA
      refine gv_v (va_runV (As := [.int x1, .int x2]) (rest := []) ⟨hx, hb, hml, hown, hts⟩ (c_X7_joins l D k a S_8 H.size x1 x2 _ h) (cwV 2 hts gX7_dances_X7_joins rfl rfl rfl (by decide +kernel) ⟨Nat.le_of_ble_eq_true rfl, Nat.le_of_ble_eq_true rfl⟩) (gv_preV hK hnw hP hD (ci := 7) rfl 0 rfl) rfl rfl hl.1 rfl (lv_room (Nat.le_of_ble_eq_true rfl)) dX7_dances_60 ⟨Nat.zero_le _, Nat.zero_le _⟩) hS hFc (fun u_12 H locs h hP1 hD1 hk1 hS => ?_)
      have hP := hP1
      have hD := hD1.weaken (fun _ _ _ z => hFc _ z)
      exact W.vret hx hb hr (fun t ht hW => ⟨⟨u_12, rfl, h, by rw [ht]; exact hP, va_K.moved hW.alike hK, hD⟩, hS.F ht⟩) hS.2.2 dX7_dances_63
    · have h := h.2 c_10
      refine lv_iload hx hb dX7_dances_38 (lv_at hl 0 rfl) ?_
      refine lv_if_eq (tgt := 57) hx hb dX7_dances_40 (by decide) (fun c_13 => ?_) (fun c_13 => ?_)
      · have h := h.1 c_13
        refine lv_aload_n hx hb dX7_dances_57 rfl (lv_at hl 1 rfl) ?_
        refine lv_iload_n hx hb dX7_dances_58 rfl (lv_at hl 2 rfl) ?_
        refine lv_iload_n hx hb dX7_dances_59 rfl (lv_at hl 3 rfl) ?_
        have hFc := fr_self hD hS hA
        refine gv_v (va_runV (As := [.int x1, .int x2]) (rest := []) ⟨hx, hb, hml, hown, hts⟩ (c_X7_joins l D k a S_8 H.size x1 x2 _ h) (cwV 2 hts gX7_dances_X7_joins rfl rfl rfl (by decide +kernel) ⟨Nat.le_of_ble_eq_true rfl, Nat.le_of_ble_eq_true rfl⟩) (gv_preV hK hnw hP hD (ci := 7) rfl 0 rfl) rfl rfl hl.1 rfl (lv_room (Nat.le_of_ble_eq_true rfl)) dX7_dances_60 ⟨Nat.zero_le _, Nat.zero_le _⟩) hS hFc (fun u_15 H locs h hP1 hD1 hk1 hS => ?_)
        have hP := hP1
        have hD := hD1.weaken (fun _ _ _ z => hFc _ z)
        exact W.vret hx hb hr (fun t ht hW => ⟨⟨u_15, rfl, h, by rw [ht]; exact hP, va_K.moved hW.alike hK, hD⟩, hS.F ht⟩) hS.2.2 dX7_dances_63
      · have h := h.2 c_13
        refine lv_aload_n hx hb dX7_dances_43 rfl (lv_at hl 1 rfl) ?_
        refine va_get (D := D) (ci := 7) (v := .ref (a 4)) (C := RX7) (T := TX7) (N := 33) hx hb hts in_Mo hown hK hP 0 rfl rfl 3 (by decide) ln_19 (fun _ h9 => h9) rfl dX7_dances_44 ?_
        refine lv_iload hx hb dX7_dances_47 (lv_at hl 0 rfl) ?_
        refine gs_i (va_runS (As := [.int z_6]) (rest := [.ref (a 4)]) ⟨hx, hb, hml, hown, hts⟩ (c_X7_lowest l z_6 _ h) (va_cwS 1 hts gX7_dances_X7_lowest rfl rfl rfl (by decide +kernel) ⟨Nat.le_of_ble_eq_true rfl, Nat.le_of_ble_eq_true rfl⟩) preEq rfl rfl hl.1 rfl (lv_room (Nat.le_of_ble_eq_true rfl)) dX7_dances_49 ⟨Nat.zero_le _, Nat.zero_le _⟩) (fun r_16 h => ?_)
        refine lv_dup2_11 hx hb dX7_dances_52 rfl rfl ?_
        refine va_iald hx hb hK hP 4 0 rfl rfl h.1 dX7_dances_53 ?_
        have h := h.2
        refine lv_iconst (v := (1 : Int32)) hx hb dX7_dances_54 (by decide) ?_
        refine lv_iadd hx hb dX7_dances_55 ?_
        refine va_iast hx hb hK hP hD hS 4 0 rfl rfl h.1 dX7_dances_56 (fun H locs hP hD hS => ?_)
        have h := h.2
        obtain ⟨S_17, e_18⟩ : ∃ z : St, z = (sA S_8 3 r_16.toNatClampNeg ((S_8.2 3 r_16.toNatClampNeg) + (1 : Int32))) := ⟨_, rfl⟩
        have h := h S_17 e_18
        have hP : va_P D vwCl (wMo k a S_17) H := by rw [e_18]; exact hP
        have hD : va_D A (wMo k a S_17) := by rw [e_18]; exact hD
        refine lv_aload_n hx hb dX7_dances_57 rfl (lv_at hl 1 rfl) ?_
        refine lv_iload_n hx hb dX7_dances_58 rfl (lv_at hl 2 rfl) ?_
        refine lv_iload_n hx hb dX7_dances_59 rfl (lv_at hl 3 rfl) ?_
        have hFc := fr_self hD hS hA
        refine gv_v (va_runV (As := [.int x1, .int x2]) (rest := []) ⟨hx, hb, hml, hown, hts⟩ (c_X7_joins l D k a S_17 H.size x1 x2 _ h) (cwV 2 hts gX7_dances_X7_joins rfl rfl rfl (by decide +kernel) ⟨Nat.le_of_ble_eq_true rfl, Nat.le_of_ble_eq_true rfl⟩) (gv_preV hK hnw hP hD (ci := 7) rfl 0 rfl) rfl rfl hl.1 rfl (lv_room (Nat.le_of_ble_eq_true rfl)) dX7_dances_60 ⟨Nat.zero_le _, Nat.zero_le _⟩) hS hFc (fun u_20 H locs h hP1 hD1 hk1 hS => ?_)
        have hP := hP1
        have hD := hD1.weaken (fun _ _ _ z => hFc _ z)
        exact W.vret hx hb hr (fun t ht hW => ⟨⟨u_20, rfl, h, by rw [ht]; exact hP, va_K.moved hW.alike hK, hD⟩, hS.F ht⟩) hS.2.2 dX7_dances_63
/-! X7_dancesByLeast -/
def wp_X7_dancesByLeast (S0 : St) (x1 : Int32) (x2 : Int32) (Q : St → Prop) : Prop := wp_X7_bringersOf S0 x1 x2 (fun r_1 u_2 => ((¬ r_1 = 0) → (wp_X7_lowest r_1 (fun r_4 => wp_X7_dances u_2 x1 x2 r_4 (fun u_6 => Q u_6)))) ∧ ((r_1 = 0) → (wp_X7_dances u_2 x1 x2 (9 : Int32) (fun u_8 => Q u_8))))
abbrev rmX7_dancesByLeast : Room := { frames := 4, cells := 0, slots := 0, locals := 96 }
set_option maxRecDepth 100000 in
set_option maxHeartbeats 4000000 in
theorem c_X7_dancesByLeast (l : Launch) (D : va_G) (k : Nat → ClassId) (a : Nat → Nat) (S0 : St) (sz : Nat) (x1 : Int32) (x2 : Int32) (Q : St → Prop) (h : wp_X7_dancesByLeast S0 x1 x2 Q) : Met l yX7_dancesByLeast wsX7_dancesByLeast rmX7_dancesByLeast (cPc D k (wMo k a S0) [.ref (a 0), .int x1, .int x2] sz) (va_Qv (fun (u : St) => Q u) (cB D k (va_A (wMo k a S0) sz) (fun u : St => wMo k a u)) (va_A (wMo k a S0) sz)) 0 0 (va_A (wMo k a S0) sz) := by
  refine ct_entry (cc := cX7_dancesByLeast) (maxL := 4) (ret := none) (Rn := RX7) (Qc := fun A => (va_Qv (fun (u : St) => Q u) (cB D k A (fun u : St => wMo k a u)) A)) (by decide) rfl rfl (Nat.le_of_ble_eq_true rfl) ?_
  intro p e s m below meth c hx hb hr hlocks hml hts hown hnw hK A hA H locs hP hD hS ls hl
  have hl : lv_has ls 4 [(0, .ref (a 0)), (1, .int x1), (2, .int x2)] := hl
  unfold wp_X7_dancesByLeast at h
  refine lv_aload_n hx hb dX7_dancesByLeast_0 rfl (lv_at hl 0 rfl) ?_
  refine lv_iload_n hx hb dX7_dancesByLeast_1 rfl (lv_at hl 1 rfl) ?_
  refine lv_iload_n hx hb dX7_dancesByLeast_2 rfl (lv_at hl 2 rfl) ?_
  have hFc := fr_self hD hS hA
  refine gv_i (va_runV (As := [.int x1, .int x2]) (rest := []) ⟨hx, hb, hml, hown, hts⟩ (c_X7_bringersOf l D k a S0 H.size x1 x2 _ h) (cwV 2 hts gX7_dancesByLeast_X7_bringersOf rfl rfl rfl (by decide +kernel) ⟨Nat.le_of_ble_eq_true rfl, Nat.le_of_ble_eq_true rfl⟩) (gv_preV hK hnw hP hD (ci := 7) rfl 0 rfl) rfl rfl hl.1 rfl (lv_room (Nat.le_of_ble_eq_true rfl)) dX7_dancesByLeast_3 ⟨Nat.zero_le _, Nat.zero_le _⟩) hS hFc (fun r_1 u_2 H locs h hP1 hD1 hk1 hS => ?_)
  have hP := hP1
  have hD := hD1.weaken (fun _ _ _ z => hFc _ z)
  refine lv_istore_n (lv' := [(3, .int r_1), (0, .ref (a 0)), (1, .int x1), (2, .int x2)]) hx hb dX7_dancesByLeast_6 rfl hl (by decide) rfl (fun ls hl => ?_)
  refine lv_aload_n hx hb dX7_dancesByLeast_7 rfl (lv_at hl 1 rfl) ?_
  refine lv_iload_n hx hb dX7_dancesByLeast_8 rfl (lv_at hl 2 rfl) ?_
  refine lv_iload_n hx hb dX7_dancesByLeast_9 rfl (lv_at hl 3 rfl) ?_
  refine lv_iload_n hx hb dX7_dancesByLeast_10 rfl (lv_at hl 0 rfl) ?_
  refine lv_if_ne (tgt := 19) hx hb dX7_dancesByLeast_11 (by decide) (fun c_3 => ?_) (fun c_3 => ?_)
  · have h := h.1 c_3
    refine lv_iload_n hx hb dX7_dancesByLeast_19 rfl (lv_at hl 0 rfl) ?_
    refine gs_i (va_runS (As := [.int r_1]) (rest := [.int x2, .int x1, .ref (a 0)]) ⟨hx, hb, hml, hown, hts⟩ (c_X7_lowest l r_1 _ h) (va_cwS 1 hts gX7_dancesByLeast_X7_lowest rfl rfl rfl (by decide +kernel) ⟨Nat.le_of_ble_eq_true rfl, Nat.le_of_ble_eq_true rfl⟩) preEq rfl rfl hl.1 rfl (lv_room (Nat.le_of_ble_eq_true rfl)) dX7_dancesByLeast_20 ⟨Nat.zero_le _, Nat.zero_le _⟩) (fun r_4 h => ?_)
    have hFc := fr_self hD hS hA
    refine gv_v (va_runV (As := [.int x1, .int x2, .int r_4]) (rest := []) ⟨hx, hb, hml, hown, hts⟩ (c_X7_dances l D k a u_2 H.size x1 x2 r_4 _ h) (cwV 3 hts gX7_dancesByLeast_X7_dances rfl rfl rfl (by decide +kernel) ⟨Nat.le_of_ble_eq_true rfl, Nat.le_of_ble_eq_true rfl⟩) (gv_preV hK hnw hP hD (ci := 7) rfl 0 rfl) rfl rfl hl.1 rfl (lv_room (Nat.le_of_ble_eq_true rfl)) dX7_dancesByLeast_23 ⟨Nat.zero_le _, Nat.zero_le _⟩) hS hFc (fun u_6 H locs h hP1 hD1 hk1 hS => ?_)
    have hP := hP1
    have hD := hD1.weaken (fun _ _ _ z => hFc _ z)
    exact W.vret hx hb hr (fun t ht hW => ⟨⟨u_6, rfl, h, by rw [ht]; exact hP, va_K.moved hW.alike hK, hD⟩, hS.F ht⟩) hS.2.2 dX7_dancesByLeast_26
  · have h := h.2 c_3
    refine lv_bipush (v := (9 : Int32)) hx hb dX7_dancesByLeast_14 (by decide) ?_
    refine lv_goto (tgt := 23) hx hb dX7_dancesByLeast_16 (by decide) ?_
    have hFc := fr_self hD hS hA
    refine gv_v (va_runV (As := [.int x1, .int x2, .int (9 : Int32)]) (rest := []) ⟨hx, hb, hml, hown, hts⟩ (c_X7_dances l D k a u_2 H.size x1 x2 (9 : Int32) _ h) (cwV 3 hts gX7_dancesByLeast_X7_dances rfl rfl rfl (by decide +kernel) ⟨Nat.le_of_ble_eq_true rfl, Nat.le_of_ble_eq_true rfl⟩) (gv_preV hK hnw hP hD (ci := 7) rfl 0 rfl) rfl rfl hl.1 rfl (lv_room (Nat.le_of_ble_eq_true rfl)) dX7_dancesByLeast_23 ⟨Nat.zero_le _, Nat.zero_le _⟩) hS hFc (fun u_8 H locs h hP1 hD1 hk1 hS => ?_)
    have hP := hP1
    have hD := hD1.weaken (fun _ _ _ z => hFc _ z)
    exact W.vret hx hb hr (fun t ht hW => ⟨⟨u_8, rfl, h, by rw [ht]; exact hP, va_K.moved hW.alike hK, hD⟩, hS.F ht⟩) hS.2.2 dX7_dancesByLeast_26
/-! X7_dancer -/
def wp_X7_dancer (S0 : St) (x1 : Int32) (x2 : Int32) (Q : Int32 → St → Prop) : Prop := wp_X7_isDancer S0 x1 (fun r_1 u_2 => ((¬ r_1 = 0) → ((x2 = (0 : Int32) → (vp_in x1 8 ∧ (Q (u_2.2 1 x1.toNatClampNeg) u_2))) ∧ (¬ x2 = (0 : Int32) → ((x2 = (1 : Int32) → (vp_in x1 8 ∧ (Q (u_2.2 2 x1.toNatClampNeg) u_2))) ∧ (¬ x2 = (1 : Int32) → ((x2 = (2 : Int32) → (vp_in x1 8 ∧ (Q (u_2.2 3 x1.toNatClampNeg) u_2))) ∧ (¬ x2 = (2 : Int32) → ((x2 = (3 : Int32) → (vp_in x1 8 ∧ (wp_X7_bits (u_2.2 4 x1.toNatClampNeg) (fun r_8 => Q r_8 u_2)))) ∧ (¬ x2 = (3 : Int32) → (wp_X7_no u_2 (-2 : Int32) (fun r_9 u_10 => Q r_9 u_10))))))))))) ∧ ((r_1 = 0) → (wp_X7_no u_2 (-1 : Int32) (fun r_11 u_12 => Q r_11 u_12))))
abbrev rmX7_dancer : Room := { frames := 1, cells := 0, slots := 0, locals := 22 }
set_option maxRecDepth 100000 in
set_option maxHeartbeats 4000000 in
theorem c_X7_dancer (l : Launch) (D : va_G) (k : Nat → ClassId) (a : Nat → Nat) (S0 : St) (sz : Nat) (x1 : Int32) (x2 : Int32) (Q : Int32 → St → Prop) (h : wp_X7_dancer S0 x1 x2 Q) : Met l yX7_dancer wsX7_dancer rmX7_dancer (cPc D k (wMo k a S0) [.ref (a 0), .int x1, .int x2] sz) (va_Qi (fun (r : Int32) (u : St) => Q r u) (cB D k (va_A (wMo k a S0) sz) (fun u : St => wMo k a u)) (va_A (wMo k a S0) sz)) 0 0 (va_A (wMo k a S0) sz) := by
  refine ct_entry (cc := cX7_dancer) (maxL := 3) (ret := (some .int)) (Rn := RX7) (Qc := fun A => (va_Qi (fun (r : Int32) (u : St) => Q r u) (cB D k A (fun u : St => wMo k a u)) A)) (by decide) rfl rfl (Nat.le_of_ble_eq_true rfl) ?_
  intro p e s m below meth c hx hb hr hlocks hml hts hown hnw hK A hA H locs hP hD hS ls hl
  have hl : lv_has ls 3 [(0, .ref (a 0)), (1, .int x1), (2, .int x2)] := hl
  have ln_13 := hts (.fieldLink RX7 13 "WithTheSameOneModel" "kind" "[I") (by decide +kernel)
  have ln_16 := hts (.fieldLink RX7 16 "WithTheSameOneModel" "figure" "[I") (by decide +kernel)
  have ln_19 := hts (.fieldLink RX7 19 "WithTheSameOneModel" "brought" "[I") (by decide +kernel)
  have ln_22 := hts (.fieldLink RX7 22 "WithTheSameOneModel" "with" "[I") (by decide +kernel)
  have in_Mo : ∀ w ∈ wsX70, w ∈ wsX7_dancer := fun _ h => List.mem_cons_of_mem _ (List.mem_append_right _ h)
  unfold wp_X7_dancer at h
  refine lv_aload_n hx hb dX7_dancer_0 rfl (lv_at hl 0 rfl) ?_
  refine lv_iload_n hx hb dX7_dancer_1 rfl (lv_at hl 1 rfl) ?_
  have hFc := fr_self hD hS hA
  refine gv_i (va_runV (As := [.int x1]) (rest := []) ⟨hx, hb, hml, hown, hts⟩ (c_X7_isDancer l D k a S0 H.size x1 _ h) (cwV 1 hts gX7_dancer_X7_isDancer rfl rfl rfl (by decide +kernel) ⟨Nat.le_of_ble_eq_true rfl, Nat.le_of_ble_eq_true rfl⟩) (gv_preV hK hnw hP hD (ci := 7) rfl 0 rfl) rfl rfl hl.1 rfl (lv_room (Nat.le_of_ble_eq_true rfl)) dX7_dancer_2 ⟨Nat.zero_le _, Nat.zero_le _⟩) hS hFc (fun r_1 u_2 H locs h hP1 hD1 hk1 hS => ?_)
  have hP := hP1
  have hD := hD1.weaken (fun _ _ _ z => hFc _ z)
  refine lv_if_ne (tgt := 14) hx hb dX7_dancer_5 (by decide) (fun c_3 => ?_) (fun c_3 => ?_)
  · have h := h.1 c_3
    refine lv_iload_n hx hb dX7_dancer_14 rfl (lv_at hl 2 rfl) ?_
    by_cases c_4 : x2 = (0 : Int32)
    · have h := h.1 c_4
      refine lv_tableIn (off := 29) (tgt := 44) hx hb dX7_dancer_15 (by rw [c_4]; decide) (by rw [c_4]; decide) (by rw [c_4]; rfl) (by decide) ?_
      refine lv_aload_n hx hb dX7_dancer_44 rfl (lv_at hl 0 rfl) ?_
      refine va_get (D := D) (ci := 7) (v := .ref (a 2)) (C := RX7) (T := TX7) (N := 33) hx hb hts in_Mo hown hK hP 0 rfl rfl 1 (by decide) ln_13 (fun _ h9 => h9) rfl dX7_dancer_45 ?_
      refine lv_iload_n hx hb dX7_dancer_48 rfl (lv_at hl 1 rfl) ?_
      refine va_iald hx hb hK hP 2 0 rfl rfl h.1 dX7_dancer_49 ?_
      have h := h.2
      exact W.iret (v := (u_2.2 1 x1.toNatClampNeg)) hx hb hr (fun t ht hW => ⟨⟨(u_2.2 1 x1.toNatClampNeg), u_2, rfl, h, by rw [ht]; exact hP, va_K.moved hW.alike hK, hD⟩, hS.F ht⟩) hS.2.2 dX7_dancer_50
    · have h := h.2 c_4
      by_cases c_5 : x2 = (1 : Int32)
      · have h := h.1 c_5
        refine lv_tableIn (off := 36) (tgt := 51) hx hb dX7_dancer_15 (by rw [c_5]; decide) (by rw [c_5]; decide) (by rw [c_5]; rfl) (by decide) ?_
        refine lv_aload_n hx hb dX7_dancer_51 rfl (lv_at hl 0 rfl) ?_
        refine va_get (D := D) (ci := 7) (v := .ref (a 3)) (C := RX7) (T := TX7) (N := 33) hx hb hts in_Mo hown hK hP 0 rfl rfl 2 (by decide) ln_16 (fun _ h9 => h9) rfl dX7_dancer_52 ?_
        refine lv_iload_n hx hb dX7_dancer_55 rfl (lv_at hl 1 rfl) ?_
        refine va_iald hx hb hK hP 3 0 rfl rfl h.1 dX7_dancer_56 ?_
        have h := h.2
        exact W.iret (v := (u_2.2 2 x1.toNatClampNeg)) hx hb hr (fun t ht hW => ⟨⟨(u_2.2 2 x1.toNatClampNeg), u_2, rfl, h, by rw [ht]; exact hP, va_K.moved hW.alike hK, hD⟩, hS.F ht⟩) hS.2.2 dX7_dancer_57
      · have h := h.2 c_5
        by_cases c_6 : x2 = (2 : Int32)
        · have h := h.1 c_6
          refine lv_tableIn (off := 43) (tgt := 58) hx hb dX7_dancer_15 (by rw [c_6]; decide) (by rw [c_6]; decide) (by rw [c_6]; rfl) (by decide) ?_
          refine lv_aload_n hx hb dX7_dancer_58 rfl (lv_at hl 0 rfl) ?_
          refine va_get (D := D) (ci := 7) (v := .ref (a 4)) (C := RX7) (T := TX7) (N := 33) hx hb hts in_Mo hown hK hP 0 rfl rfl 3 (by decide) ln_19 (fun _ h9 => h9) rfl dX7_dancer_59 ?_
          refine lv_iload_n hx hb dX7_dancer_62 rfl (lv_at hl 1 rfl) ?_
          refine va_iald hx hb hK hP 4 0 rfl rfl h.1 dX7_dancer_63 ?_
          have h := h.2
          exact W.iret (v := (u_2.2 3 x1.toNatClampNeg)) hx hb hr (fun t ht hW => ⟨⟨(u_2.2 3 x1.toNatClampNeg), u_2, rfl, h, by rw [ht]; exact hP, va_K.moved hW.alike hK, hD⟩, hS.F ht⟩) hS.2.2 dX7_dancer_64
        · have h := h.2 c_6
          by_cases c_7 : x2 = (3 : Int32)
          · have h := h.1 c_7
            refine lv_tableIn (off := 50) (tgt := 65) hx hb dX7_dancer_15 (by rw [c_7]; decide) (by rw [c_7]; decide) (by rw [c_7]; rfl) (by decide) ?_
            refine lv_aload_n hx hb dX7_dancer_65 rfl (lv_at hl 0 rfl) ?_
            refine va_get (D := D) (ci := 7) (v := .ref (a 5)) (C := RX7) (T := TX7) (N := 33) hx hb hts in_Mo hown hK hP 0 rfl rfl 4 (by decide) ln_22 (fun _ h9 => h9) rfl dX7_dancer_66 ?_
            refine lv_iload_n hx hb dX7_dancer_69 rfl (lv_at hl 1 rfl) ?_
            refine va_iald hx hb hK hP 5 0 rfl rfl h.1 dX7_dancer_70 ?_
            have h := h.2
            refine gs_i (va_runS (As := [.int (u_2.2 4 x1.toNatClampNeg)]) (rest := []) ⟨hx, hb, hml, hown, hts⟩ (c_X7_bits l (u_2.2 4 x1.toNatClampNeg) _ h) (va_cwS 1 hts gX7_dancer_X7_bits rfl rfl rfl (by decide +kernel) ⟨Nat.le_of_ble_eq_true rfl, Nat.le_of_ble_eq_true rfl⟩) preEq rfl rfl hl.1 rfl (lv_room (Nat.le_of_ble_eq_true rfl)) dX7_dancer_71 ⟨Nat.zero_le _, Nat.zero_le _⟩) (fun r_8 h => ?_)
            exact W.iret (v := r_8) hx hb hr (fun t ht hW => ⟨⟨r_8, u_2, rfl, h, by rw [ht]; exact hP, va_K.moved hW.alike hK, hD⟩, hS.F ht⟩) hS.2.2 dX7_dancer_74
          · have h := h.2 c_7
            refine lv_tableD (tgt := 75) hx hb dX7_dancer_15 (by
      have n0 := lv_neT (k := (0 : Int32)) (a := 0) c_4 (by decide)
      have n1 := lv_neT (k := (1 : Int32)) (a := 1) c_5 (by decide)
      have n2 := lv_neT (k := (2 : Int32)) (a := 2) c_6 (by decide)
      have n3 := lv_neT (k := (3 : Int32)) (a := 3) c_7 (by decide)
      rcases (show x2.toInt < 0 ∨ 3 < x2.toInt by omega) with q | q
      · exact Or.inl q
      · exact Or.inr (Or.inl q)) (by decide) ?_
            refine lv_aload_n hx hb dX7_dancer_75 rfl (lv_at hl 0 rfl) ?_
            refine lv_bipush (v := (-2 : Int32)) hx hb dX7_dancer_76 (by decide) ?_
            have hFc := fr_self hD hS hA
            refine gv_i (va_runV (As := [.int (-2 : Int32)]) (rest := []) ⟨hx, hb, hml, hown, hts⟩ (c_X7_no l D k a u_2 H.size (-2 : Int32) _ h) (cwV 1 hts gX7_dancer_X7_no rfl rfl rfl (by decide +kernel) ⟨Nat.le_of_ble_eq_true rfl, Nat.le_of_ble_eq_true rfl⟩) (gv_preV hK hnw hP hD (ci := 7) rfl 0 rfl) rfl rfl hl.1 rfl (lv_room (Nat.le_of_ble_eq_true rfl)) dX7_dancer_78 ⟨Nat.zero_le _, Nat.zero_le _⟩) hS hFc (fun r_9 u_10 H locs h hP1 hD1 hk1 hS => ?_)
            have hP := hP1
            have hD := hD1.weaken (fun _ _ _ z => hFc _ z)
            exact W.iret (v := r_9) hx hb hr (fun t ht hW => ⟨⟨r_9, u_10, rfl, h, by rw [ht]; exact hP, va_K.moved hW.alike hK, hD⟩, hS.F ht⟩) hS.2.2 dX7_dancer_81
  · have h := h.2 c_3
    refine lv_aload_n hx hb dX7_dancer_8 rfl (lv_at hl 0 rfl) ?_
    refine lv_iconst (v := (-1 : Int32)) hx hb dX7_dancer_9 (by decide) ?_
    have hFc := fr_self hD hS hA
    refine gv_i (va_runV (As := [.int (-1 : Int32)]) (rest := []) ⟨hx, hb, hml, hown, hts⟩ (c_X7_no l D k a u_2 H.size (-1 : Int32) _ h) (cwV 1 hts gX7_dancer_X7_no rfl rfl rfl (by decide +kernel) ⟨Nat.le_of_ble_eq_true rfl, Nat.le_of_ble_eq_true rfl⟩) (gv_preV hK hnw hP hD (ci := 7) rfl 0 rfl) rfl rfl hl.1 rfl (lv_room (Nat.le_of_ble_eq_true rfl)) dX7_dancer_10 ⟨Nat.zero_le _, Nat.zero_le _⟩) hS hFc (fun r_11 u_12 H locs h hP1 hD1 hk1 hS => ?_)
    have hP := hP1
    have hD := hD1.weaken (fun _ _ _ z => hFc _ z)
    exact W.iret (v := r_11) hx hb hr (fun t ht hW => ⟨⟨r_11, u_12, rfl, h, by rw [ht]; exact hP, va_K.moved hW.alike hK, hD⟩, hS.F ht⟩) hS.2.2 dX7_dancer_13
/-! X7_law -/
def wp_X7_law (S0 : St) (x1 : Int32) (Q : Int32 → St → Prop) : Prop := wp_X7_isIn x1 (0 : Int32) (2 : Int32) (fun r_1 => ((¬ r_1 = 0) → (∀ S_3, S_3 = (sI S0 6 x1) → (Q (S0.1 6) S_3))) ∧ ((r_1 = 0) → (wp_X7_no S0 (-2 : Int32) (fun r_5 u_6 => Q r_5 u_6))))
abbrev rmX7_law : Room := { frames := 1, cells := 0, slots := 0, locals := 22 }
set_option maxRecDepth 100000 in
set_option maxHeartbeats 4000000 in
theorem c_X7_law (l : Launch) (D : va_G) (k : Nat → ClassId) (a : Nat → Nat) (S0 : St) (sz : Nat) (x1 : Int32) (Q : Int32 → St → Prop) (h : wp_X7_law S0 x1 Q) : Met l yX7_law wsX7_law rmX7_law (cPc D k (wMo k a S0) [.ref (a 0), .int x1] sz) (va_Qi (fun (r : Int32) (u : St) => Q r u) (cB D k (va_A (wMo k a S0) sz) (fun u : St => wMo k a u)) (va_A (wMo k a S0) sz)) 0 0 (va_A (wMo k a S0) sz) := by
  refine ct_entry (cc := cX7_law) (maxL := 3) (ret := (some .int)) (Rn := RX7) (Qc := fun A => (va_Qi (fun (r : Int32) (u : St) => Q r u) (cB D k A (fun u : St => wMo k a u)) A)) (by decide) rfl rfl (Nat.le_of_ble_eq_true rfl) ?_
  intro p e s m below meth c hx hb hr hlocks hml hts hown hnw hK A hA H locs hP hD hS ls hl
  have hl : lv_has ls 3 [(0, .ref (a 0)), (1, .int x1)] := hl
  have ln_109 := hts (.fieldLink RX7 109 "WithTheSameOneModel" "law" "I") (by decide +kernel)
  have in_Mo : ∀ w ∈ wsX70, w ∈ wsX7_law := fun _ h => List.mem_cons_of_mem _ (List.mem_append_right _ h)
  unfold wp_X7_law at h
  refine lv_iload_n hx hb dX7_law_0 rfl (lv_at hl 1 rfl) ?_
  refine lv_iconst (v := (0 : Int32)) hx hb dX7_law_1 (by decide) ?_
  refine lv_iconst (v := (2 : Int32)) hx hb dX7_law_2 (by decide) ?_
  refine gs_i (va_runS (As := [.int x1, .int (0 : Int32), .int (2 : Int32)]) (rest := []) ⟨hx, hb, hml, hown, hts⟩ (c_X7_isIn l x1 (0 : Int32) (2 : Int32) _ h) (va_cwS 3 hts gX7_law_X7_isIn rfl rfl rfl (by decide +kernel) ⟨Nat.le_of_ble_eq_true rfl, Nat.le_of_ble_eq_true rfl⟩) preEq rfl rfl hl.1 rfl (lv_room (Nat.le_of_ble_eq_true rfl)) dX7_law_3 ⟨Nat.zero_le _, Nat.zero_le _⟩) (fun r_1 h => ?_)
  refine lv_if_ne (tgt := 16) hx hb dX7_law_6 (by decide) (fun c_2 => ?_) (fun c_2 => ?_)
  · have h := h.1 c_2
    refine lv_aload_n hx hb dX7_law_16 rfl (lv_at hl 0 rfl) ?_
    refine va_get (D := D) (ci := 7) (v := .int (S0.1 6)) (C := RX7) (T := TX7) (N := 33) hx hb hts in_Mo hown hK hP 0 rfl rfl 6 (by decide) ln_109 (fun _ h9 => h9) rfl dX7_law_17 ?_
    refine lv_istore_n (lv' := [(2, .int (S0.1 6)), (0, .ref (a 0)), (1, .int x1)]) hx hb dX7_law_20 rfl hl (by decide) rfl (fun ls hl => ?_)
    refine lv_aload_n hx hb dX7_law_21 rfl (lv_at hl 1 rfl) ?_
    refine lv_iload_n hx hb dX7_law_22 rfl (lv_at hl 2 rfl) ?_
    refine va_put (D := D) (ci := 7) (v := .int x1) (ty := .int) (C := RX7) (T := TX7) (N := 33) hx hb hts in_Mo tyX7 tyX7_ok nmX7 hown hK hP hD hS 0 rfl rfl 6 (by decide) ln_109 (fun _ h9 => h9) rfl (by decide +kernel) rfl rfl (Nat.le_of_ble_eq_true rfl) dX7_law_23 (fun H locs hP hD hS => ?_)
    obtain ⟨S_3, e_4⟩ : ∃ z : St, z = (sI S0 6 x1) := ⟨_, rfl⟩
    have h := h S_3 e_4
    have hP : va_P D vwCl (wMo k a S_3) H := by rw [e_4]; exact hP
    have hD : va_D A (wMo k a S_3) := by rw [e_4]; exact hD
    refine lv_iload_n hx hb dX7_law_26 rfl (lv_at hl 0 rfl) ?_
    exact W.iret (v := (S0.1 6)) hx hb hr (fun t ht hW => ⟨⟨(S0.1 6), S_3, rfl, h, by rw [ht]; exact hP, va_K.moved hW.alike hK, hD⟩, hS.F ht⟩) hS.2.2 dX7_law_27
  · have h := h.2 c_2
    refine lv_aload_n hx hb dX7_law_9 rfl (lv_at hl 0 rfl) ?_
    refine lv_bipush (v := (-2 : Int32)) hx hb dX7_law_10 (by decide) ?_
    have hFc := fr_self hD hS hA
    refine gv_i (va_runV (As := [.int (-2 : Int32)]) (rest := []) ⟨hx, hb, hml, hown, hts⟩ (c_X7_no l D k a S0 H.size (-2 : Int32) _ h) (cwV 1 hts gX7_law_X7_no rfl rfl rfl (by decide +kernel) ⟨Nat.le_of_ble_eq_true rfl, Nat.le_of_ble_eq_true rfl⟩) (gv_preV hK hnw hP hD (ci := 7) rfl 0 rfl) rfl rfl hl.1 rfl (lv_room (Nat.le_of_ble_eq_true rfl)) dX7_law_12 ⟨Nat.zero_le _, Nat.zero_le _⟩) hS hFc (fun r_5 u_6 H locs h hP1 hD1 hk1 hS => ?_)
    have hP := hP1
    have hD := hD1.weaken (fun _ _ _ z => hFc _ z)
    exact W.iret (v := r_5) hx hb hr (fun t ht hW => ⟨⟨r_5, u_6, rfl, h, by rw [ht]; exact hP, va_K.moved hW.alike hK, hD⟩, hS.F ht⟩) hS.2.2 dX7_law_15
/-! X7_danced -/
def wp_X7_danced (S0 : St) (x1 : Int32) (x2 : Int32) (Q : Int32 → St → Prop) : Prop := wp_X7_areTwo S0 x1 x2 (fun r_1 u_2 => ((¬ r_1 = 0) → (wp_X7_haveDanced u_2 x1 x2 (fun r_4 u_5 => ((r_4 = 0) → (Q (0 : Int32) u_5)) ∧ ((¬ r_4 = 0) → (Q (1 : Int32) u_5))))) ∧ ((r_1 = 0) → (wp_X7_no u_2 (-1 : Int32) (fun r_7 u_8 => Q r_7 u_8))))
abbrev rmX7_danced : Room := { frames := 2, cells := 0, slots := 0, locals := 43 }
set_option maxRecDepth 100000 in
set_option maxHeartbeats 4000000 in
theorem c_X7_danced (l : Launch) (D : va_G) (k : Nat → ClassId) (a : Nat → Nat) (S0 : St) (sz : Nat) (x1 : Int32) (x2 : Int32) (Q : Int32 → St → Prop) (h : wp_X7_danced S0 x1 x2 Q) : Met l yX7_danced wsX7_danced rmX7_danced (cPc D k (wMo k a S0) [.ref (a 0), .int x1, .int x2] sz) (va_Qi (fun (r : Int32) (u : St) => Q r u) (cB D k (va_A (wMo k a S0) sz) (fun u : St => wMo k a u)) (va_A (wMo k a S0) sz)) 0 0 (va_A (wMo k a S0) sz) := by
  refine ct_entry (cc := cX7_danced) (maxL := 3) (ret := (some .int)) (Rn := RX7) (Qc := fun A => (va_Qi (fun (r : Int32) (u : St) => Q r u) (cB D k A (fun u : St => wMo k a u)) A)) (by decide) rfl rfl (Nat.le_of_ble_eq_true rfl) ?_
  intro p e s m below meth c hx hb hr hlocks hml hts hown hnw hK A hA H locs hP hD hS ls hl
  have hl : lv_has ls 3 [(0, .ref (a 0)), (1, .int x1), (2, .int x2)] := hl
  unfold wp_X7_danced at h
  refine lv_aload_n hx hb dX7_danced_0 rfl (lv_at hl 0 rfl) ?_
  refine lv_iload_n hx hb dX7_danced_1 rfl (lv_at hl 1 rfl) ?_
  refine lv_iload_n hx hb dX7_danced_2 rfl (lv_at hl 2 rfl) ?_
  have hFc := fr_self hD hS hA
  refine gv_i (va_runV (As := [.int x1, .int x2]) (rest := []) ⟨hx, hb, hml, hown, hts⟩ (c_X7_areTwo l D k a S0 H.size x1 x2 _ h) (cwV 2 hts gX7_danced_X7_areTwo rfl rfl rfl (by decide +kernel) ⟨Nat.le_of_ble_eq_true rfl, Nat.le_of_ble_eq_true rfl⟩) (gv_preV hK hnw hP hD (ci := 7) rfl 0 rfl) rfl rfl hl.1 rfl (lv_room (Nat.le_of_ble_eq_true rfl)) dX7_danced_3 ⟨Nat.zero_le _, Nat.zero_le _⟩) hS hFc (fun r_1 u_2 H locs h hP1 hD1 hk1 hS => ?_)
  have hP := hP1
  have hD := hD1.weaken (fun _ _ _ z => hFc _ z)
  refine lv_if_ne (tgt := 17) hx hb dX7_danced_6 (by decide) (fun c_3 => ?_) (fun c_3 => ?_)
  · have h := h.1 c_3
    refine lv_aload_n hx hb dX7_danced_17 rfl (lv_at hl 0 rfl) ?_
    refine lv_iload_n hx hb dX7_danced_18 rfl (lv_at hl 1 rfl) ?_
    refine lv_iload_n hx hb dX7_danced_19 rfl (lv_at hl 2 rfl) ?_
    have hFc := fr_self hD hS hA
    refine gv_i (va_runV (As := [.int x1, .int x2]) (rest := []) ⟨hx, hb, hml, hown, hts⟩ (c_X7_haveDanced l D k a u_2 H.size x1 x2 _ h) (cwV 2 hts gX7_danced_X7_haveDanced rfl rfl rfl (by decide +kernel) ⟨Nat.le_of_ble_eq_true rfl, Nat.le_of_ble_eq_true rfl⟩) (gv_preV hK hnw hP hD (ci := 7) rfl 0 rfl) rfl rfl hl.1 rfl (lv_room (Nat.le_of_ble_eq_true rfl)) dX7_danced_20 ⟨Nat.zero_le _, Nat.zero_le _⟩) hS hFc (fun r_4 u_5 H locs h hP1 hD1 hk1 hS => ?_)
    have hP := hP1
    have hD := hD1.weaken (fun _ _ _ z => hFc _ z)
    refine lv_if_eq (tgt := 30) hx hb dX7_danced_23 (by decide) (fun c_6 => ?_) (fun c_6 => ?_)
    · have h := h.1 c_6
      refine lv_iconst (v := (0 : Int32)) hx hb dX7_danced_30 (by decide) ?_
      exact W.iret (v := (0 : Int32)) hx hb hr (fun t ht hW => ⟨⟨(0 : Int32), u_5, rfl, h, by rw [ht]; exact hP, va_K.moved hW.alike hK, hD⟩, hS.F ht⟩) hS.2.2 dX7_danced_31
    · have h := h.2 c_6
      refine lv_iconst (v := (1 : Int32)) hx hb dX7_danced_26 (by decide) ?_
      refine lv_goto (tgt := 31) hx hb dX7_danced_27 (by decide) ?_
      exact W.iret (v := (1 : Int32)) hx hb hr (fun t ht hW => ⟨⟨(1 : Int32), u_5, rfl, h, by rw [ht]; exact hP, va_K.moved hW.alike hK, hD⟩, hS.F ht⟩) hS.2.2 dX7_danced_31
  · have h := h.2 c_3
    refine lv_aload_n hx hb dX7_danced_9 rfl (lv_at hl 0 rfl) ?_
    refine lv_iconst (v := (-1 : Int32)) hx hb dX7_danced_10 (by decide) ?_
    have hFc := fr_self hD hS hA
    refine gv_i (va_runV (As := [.int (-1 : Int32)]) (rest := []) ⟨hx, hb, hml, hown, hts⟩ (c_X7_no l D k a u_2 H.size (-1 : Int32) _ h) (cwV 1 hts gX7_danced_X7_no rfl rfl rfl (by decide +kernel) ⟨Nat.le_of_ble_eq_true rfl, Nat.le_of_ble_eq_true rfl⟩) (gv_preV hK hnw hP hD (ci := 7) rfl 0 rfl) rfl rfl hl.1 rfl (lv_room (Nat.le_of_ble_eq_true rfl)) dX7_danced_11 ⟨Nat.zero_le _, Nat.zero_le _⟩) hS hFc (fun r_7 u_8 H locs h hP1 hD1 hk1 hS => ?_)
    have hP := hP1
    have hD := hD1.weaken (fun _ _ _ z => hFc _ z)
    refine lv_goto (tgt := 31) hx hb dX7_danced_14 (by decide) ?_
    exact W.iret (v := r_7) hx hb hr (fun t ht hW => ⟨⟨r_7, u_8, rfl, h, by rw [ht]; exact hP, va_K.moved hW.alike hK, hD⟩, hS.F ht⟩) hS.2.2 dX7_danced_31
/-! X7_bringers -/
def wp_X7_bringers (S0 : St) (x1 : Int32) (x2 : Int32) (Q : Int32 → St → Prop) : Prop := wp_X7_areTwo S0 x1 x2 (fun r_1 u_2 => ((r_1 = 0) → (wp_X7_no u_2 (-1 : Int32) (fun r_4 u_5 => Q r_4 u_5))) ∧ ((¬ r_1 = 0) → (wp_X7_bringersOf u_2 x1 x2 (fun r_6 u_7 => Q r_6 u_7))))
abbrev rmX7_bringers : Room := { frames := 3, cells := 0, slots := 0, locals := 72 }
set_option maxRecDepth 100000 in
set_option maxHeartbeats 4000000 in
theorem c_X7_bringers (l : Launch) (D : va_G) (k : Nat → ClassId) (a : Nat → Nat) (S0 : St) (sz : Nat) (x1 : Int32) (x2 : Int32) (Q : Int32 → St → Prop) (h : wp_X7_bringers S0 x1 x2 Q) : Met l yX7_bringers wsX7_bringers rmX7_bringers (cPc D k (wMo k a S0) [.ref (a 0), .int x1, .int x2] sz) (va_Qi (fun (r : Int32) (u : St) => Q r u) (cB D k (va_A (wMo k a S0) sz) (fun u : St => wMo k a u)) (va_A (wMo k a S0) sz)) 0 0 (va_A (wMo k a S0) sz) := by
  refine ct_entry (cc := cX7_bringers) (maxL := 3) (ret := (some .int)) (Rn := RX7) (Qc := fun A => (va_Qi (fun (r : Int32) (u : St) => Q r u) (cB D k A (fun u : St => wMo k a u)) A)) (by decide) rfl rfl (Nat.le_of_ble_eq_true rfl) ?_
  intro p e s m below meth c hx hb hr hlocks hml hts hown hnw hK A hA H locs hP hD hS ls hl
  have hl : lv_has ls 3 [(0, .ref (a 0)), (1, .int x1), (2, .int x2)] := hl
  unfold wp_X7_bringers at h
  refine lv_aload_n hx hb dX7_bringers_0 rfl (lv_at hl 0 rfl) ?_
  refine lv_iload_n hx hb dX7_bringers_1 rfl (lv_at hl 1 rfl) ?_
  refine lv_iload_n hx hb dX7_bringers_2 rfl (lv_at hl 2 rfl) ?_
  have hFc := fr_self hD hS hA
  refine gv_i (va_runV (As := [.int x1, .int x2]) (rest := []) ⟨hx, hb, hml, hown, hts⟩ (c_X7_areTwo l D k a S0 H.size x1 x2 _ h) (cwV 2 hts gX7_bringers_X7_areTwo rfl rfl rfl (by decide +kernel) ⟨Nat.le_of_ble_eq_true rfl, Nat.le_of_ble_eq_true rfl⟩) (gv_preV hK hnw hP hD (ci := 7) rfl 0 rfl) rfl rfl hl.1 rfl (lv_room (Nat.le_of_ble_eq_true rfl)) dX7_bringers_3 ⟨Nat.zero_le _, Nat.zero_le _⟩) hS hFc (fun r_1 u_2 H locs h hP1 hD1 hk1 hS => ?_)
  have hP := hP1
  have hD := hD1.weaken (fun _ _ _ z => hFc _ z)
  refine lv_if_eq (tgt := 18) hx hb dX7_bringers_6 (by decide) (fun c_3 => ?_) (fun c_3 => ?_)
  · have h := h.1 c_3
    refine lv_aload_n hx hb dX7_bringers_18 rfl (lv_at hl 0 rfl) ?_
    refine lv_iconst (v := (-1 : Int32)) hx hb dX7_bringers_19 (by decide) ?_
    have hFc := fr_self hD hS hA
    refine gv_i (va_runV (As := [.int (-1 : Int32)]) (rest := []) ⟨hx, hb, hml, hown, hts⟩ (c_X7_no l D k a u_2 H.size (-1 : Int32) _ h) (cwV 1 hts gX7_bringers_X7_no rfl rfl rfl (by decide +kernel) ⟨Nat.le_of_ble_eq_true rfl, Nat.le_of_ble_eq_true rfl⟩) (gv_preV hK hnw hP hD (ci := 7) rfl 0 rfl) rfl rfl hl.1 rfl (lv_room (Nat.le_of_ble_eq_true rfl)) dX7_bringers_20 ⟨Nat.zero_le _, Nat.zero_le _⟩) hS hFc (fun r_4 u_5 H locs h hP1 hD1 hk1 hS => ?_)
    have hP := hP1
    have hD := hD1.weaken (fun _ _ _ z => hFc _ z)
    exact W.iret (v := r_4) hx hb hr (fun t ht hW => ⟨⟨r_4, u_5, rfl, h, by rw [ht]; exact hP, va_K.moved hW.alike hK, hD⟩, hS.F ht⟩) hS.2.2 dX7_bringers_23
  · have h := h.2 c_3
    refine lv_aload_n hx hb dX7_bringers_9 rfl (lv_at hl 0 rfl) ?_
    refine lv_iload_n hx hb dX7_bringers_10 rfl (lv_at hl 1 rfl) ?_
    refine lv_iload_n hx hb dX7_bringers_11 rfl (lv_at hl 2 rfl) ?_
    have hFc := fr_self hD hS hA
    refine gv_i (va_runV (As := [.int x1, .int x2]) (rest := []) ⟨hx, hb, hml, hown, hts⟩ (c_X7_bringersOf l D k a u_2 H.size x1 x2 _ h) (cwV 2 hts gX7_bringers_X7_bringersOf rfl rfl rfl (by decide +kernel) ⟨Nat.le_of_ble_eq_true rfl, Nat.le_of_ble_eq_true rfl⟩) (gv_preV hK hnw hP hD (ci := 7) rfl 0 rfl) rfl rfl hl.1 rfl (lv_room (Nat.le_of_ble_eq_true rfl)) dX7_bringers_12 ⟨Nat.zero_le _, Nat.zero_le _⟩) hS hFc (fun r_6 u_7 H locs h hP1 hD1 hk1 hS => ?_)
    have hP := hP1
    have hD := hD1.weaken (fun _ _ _ z => hFc _ z)
    refine lv_goto (tgt := 23) hx hb dX7_bringers_15 (by decide) ?_
    exact W.iret (v := r_6) hx hb hr (fun t ht hW => ⟨⟨r_6, u_7, rfl, h, by rw [ht]; exact hP, va_K.moved hW.alike hK, hD⟩, hS.F ht⟩) hS.2.2 dX7_bringers_23
/-! X7_may -/
def wp_X7_may (S0 : St) (x1 : Int32) (x2 : Int32) (Q : Int32 → St → Prop) : Prop := wp_X7_areTwo S0 x1 x2 (fun r_1 u_2 => ((¬ r_1 = 0) → (wp_X7_mayDance u_2 x1 x2 (fun r_4 u_5 => ((r_4 = 0) → (Q (0 : Int32) u_5)) ∧ ((¬ r_4 = 0) → (Q (1 : Int32) u_5))))) ∧ ((r_1 = 0) → (wp_X7_no u_2 (-1 : Int32) (fun r_7 u_8 => Q r_7 u_8))))
abbrev rmX7_may : Room := { frames := 4, cells := 0, slots := 0, locals := 94 }
set_option maxRecDepth 100000 in
set_option maxHeartbeats 4000000 in
theorem c_X7_may (l : Launch) (D : va_G) (k : Nat → ClassId) (a : Nat → Nat) (S0 : St) (sz : Nat) (x1 : Int32) (x2 : Int32) (Q : Int32 → St → Prop) (h : wp_X7_may S0 x1 x2 Q) : Met l yX7_may wsX7_may rmX7_may (cPc D k (wMo k a S0) [.ref (a 0), .int x1, .int x2] sz) (va_Qi (fun (r : Int32) (u : St) => Q r u) (cB D k (va_A (wMo k a S0) sz) (fun u : St => wMo k a u)) (va_A (wMo k a S0) sz)) 0 0 (va_A (wMo k a S0) sz) := by
  refine ct_entry (cc := cX7_may) (maxL := 3) (ret := (some .int)) (Rn := RX7) (Qc := fun A => (va_Qi (fun (r : Int32) (u : St) => Q r u) (cB D k A (fun u : St => wMo k a u)) A)) (by decide) rfl rfl (Nat.le_of_ble_eq_true rfl) ?_
  intro p e s m below meth c hx hb hr hlocks hml hts hown hnw hK A hA H locs hP hD hS ls hl
  have hl : lv_has ls 3 [(0, .ref (a 0)), (1, .int x1), (2, .int x2)] := hl
  unfold wp_X7_may at h
  refine lv_aload_n hx hb dX7_may_0 rfl (lv_at hl 0 rfl) ?_
  refine lv_iload_n hx hb dX7_may_1 rfl (lv_at hl 1 rfl) ?_
  refine lv_iload_n hx hb dX7_may_2 rfl (lv_at hl 2 rfl) ?_
  have hFc := fr_self hD hS hA
  refine gv_i (va_runV (As := [.int x1, .int x2]) (rest := []) ⟨hx, hb, hml, hown, hts⟩ (c_X7_areTwo l D k a S0 H.size x1 x2 _ h) (cwV 2 hts gX7_may_X7_areTwo rfl rfl rfl (by decide +kernel) ⟨Nat.le_of_ble_eq_true rfl, Nat.le_of_ble_eq_true rfl⟩) (gv_preV hK hnw hP hD (ci := 7) rfl 0 rfl) rfl rfl hl.1 rfl (lv_room (Nat.le_of_ble_eq_true rfl)) dX7_may_3 ⟨Nat.zero_le _, Nat.zero_le _⟩) hS hFc (fun r_1 u_2 H locs h hP1 hD1 hk1 hS => ?_)
  have hP := hP1
  have hD := hD1.weaken (fun _ _ _ z => hFc _ z)
  refine lv_if_ne (tgt := 17) hx hb dX7_may_6 (by decide) (fun c_3 => ?_) (fun c_3 => ?_)
  · have h := h.1 c_3
    refine lv_aload_n hx hb dX7_may_17 rfl (lv_at hl 0 rfl) ?_
    refine lv_iload_n hx hb dX7_may_18 rfl (lv_at hl 1 rfl) ?_
    refine lv_iload_n hx hb dX7_may_19 rfl (lv_at hl 2 rfl) ?_
    have hFc := fr_self hD hS hA
    refine gv_i (va_runV (As := [.int x1, .int x2]) (rest := []) ⟨hx, hb, hml, hown, hts⟩ (c_X7_mayDance l D k a u_2 H.size x1 x2 _ h) (cwV 2 hts gX7_may_X7_mayDance rfl rfl rfl (by decide +kernel) ⟨Nat.le_of_ble_eq_true rfl, Nat.le_of_ble_eq_true rfl⟩) (gv_preV hK hnw hP hD (ci := 7) rfl 0 rfl) rfl rfl hl.1 rfl (lv_room (Nat.le_of_ble_eq_true rfl)) dX7_may_20 ⟨Nat.zero_le _, Nat.zero_le _⟩) hS hFc (fun r_4 u_5 H locs h hP1 hD1 hk1 hS => ?_)
    have hP := hP1
    have hD := hD1.weaken (fun _ _ _ z => hFc _ z)
    refine lv_if_eq (tgt := 30) hx hb dX7_may_23 (by decide) (fun c_6 => ?_) (fun c_6 => ?_)
    · have h := h.1 c_6
      refine lv_iconst (v := (0 : Int32)) hx hb dX7_may_30 (by decide) ?_
      exact W.iret (v := (0 : Int32)) hx hb hr (fun t ht hW => ⟨⟨(0 : Int32), u_5, rfl, h, by rw [ht]; exact hP, va_K.moved hW.alike hK, hD⟩, hS.F ht⟩) hS.2.2 dX7_may_31
    · have h := h.2 c_6
      refine lv_iconst (v := (1 : Int32)) hx hb dX7_may_26 (by decide) ?_
      refine lv_goto (tgt := 31) hx hb dX7_may_27 (by decide) ?_
      exact W.iret (v := (1 : Int32)) hx hb hr (fun t ht hW => ⟨⟨(1 : Int32), u_5, rfl, h, by rw [ht]; exact hP, va_K.moved hW.alike hK, hD⟩, hS.F ht⟩) hS.2.2 dX7_may_31
  · have h := h.2 c_3
    refine lv_aload_n hx hb dX7_may_9 rfl (lv_at hl 0 rfl) ?_
    refine lv_iconst (v := (-1 : Int32)) hx hb dX7_may_10 (by decide) ?_
    have hFc := fr_self hD hS hA
    refine gv_i (va_runV (As := [.int (-1 : Int32)]) (rest := []) ⟨hx, hb, hml, hown, hts⟩ (c_X7_no l D k a u_2 H.size (-1 : Int32) _ h) (cwV 1 hts gX7_may_X7_no rfl rfl rfl (by decide +kernel) ⟨Nat.le_of_ble_eq_true rfl, Nat.le_of_ble_eq_true rfl⟩) (gv_preV hK hnw hP hD (ci := 7) rfl 0 rfl) rfl rfl hl.1 rfl (lv_room (Nat.le_of_ble_eq_true rfl)) dX7_may_11 ⟨Nat.zero_le _, Nat.zero_le _⟩) hS hFc (fun r_7 u_8 H locs h hP1 hD1 hk1 hS => ?_)
    have hP := hP1
    have hD := hD1.weaken (fun _ _ _ z => hFc _ z)
    refine lv_goto (tgt := 31) hx hb dX7_may_14 (by decide) ?_
    exact W.iret (v := r_7) hx hb hr (fun t ht hW => ⟨⟨r_7, u_8, rfl, h, by rw [ht]; exact hP, va_K.moved hW.alike hK, hD⟩, hS.F ht⟩) hS.2.2 dX7_may_31
/-! X7_canBy -/
def wp_X7_canBy (S0 : St) (x1 : Int32) (x2 : Int32) (x3 : Int32) (Q : Int32 → St → Prop) : Prop := ((¬ x3 = (9 : Int32)) → (wp_X7_isDancer S0 x3 (fun r_2 u_3 => ((r_2 = 0) → (Q (0 : Int32) u_3)) ∧ ((¬ r_2 = 0) → (wp_X7_bringersOf u_3 x1 x2 (fun r_5 u_6 => ((¬ ((r_5 >>> (x3 &&& 31)) &&& (1 : Int32)) = (1 : Int32)) → (Q (0 : Int32) u_6)) ∧ ((((r_5 >>> (x3 &&& 31)) &&& (1 : Int32)) = (1 : Int32)) → (Q (1 : Int32) u_6)))))))) ∧ ((x3 = (9 : Int32)) → (wp_X7_areCousins S0 x1 x2 (fun r_8 u_9 => bz r_8 ∧ Q r_8 u_9)))
abbrev rmX7_canBy : Room := { frames := 3, cells := 0, slots := 0, locals := 72 }
set_option maxRecDepth 100000 in
set_option maxHeartbeats 4000000 in
theorem c_X7_canBy (l : Launch) (D : va_G) (k : Nat → ClassId) (a : Nat → Nat) (S0 : St) (sz : Nat) (x1 : Int32) (x2 : Int32) (x3 : Int32) (Q : Int32 → St → Prop) (h : wp_X7_canBy S0 x1 x2 x3 Q) : Met l yX7_canBy wsX7_canBy rmX7_canBy (cPc D k (wMo k a S0) [.ref (a 0), .int x1, .int x2, .int x3] sz) (va_Qi (fun (r : Int32) (u : St) => Q r u) (cB D k (va_A (wMo k a S0) sz) (fun u : St => wMo k a u)) (va_A (wMo k a S0) sz)) 0 0 (va_A (wMo k a S0) sz) := by
  refine ct_entry (cc := cX7_canBy) (maxL := 4) (ret := (some .boolean)) (Rn := RX7) (Qc := fun A => (va_Qi (fun (r : Int32) (u : St) => Q r u) (cB D k A (fun u : St => wMo k a u)) A)) (by decide) rfl rfl (Nat.le_of_ble_eq_true rfl) ?_
  intro p e s m below meth c hx hb hr hlocks hml hts hown hnw hK A hA H locs hP hD hS ls hl
  have hl : lv_has ls 4 [(0, .ref (a 0)), (1, .int x1), (2, .int x2), (3, .int x3)] := hl
  unfold wp_X7_canBy at h
  refine lv_iload_n hx hb dX7_canBy_0 rfl (lv_at hl 3 rfl) ?_
  refine lv_bipush (v := (9 : Int32)) hx hb dX7_canBy_1 (by decide) ?_
  refine lv_icmp_ne (tgt := 15) hx hb dX7_canBy_3 (by decide) (fun c_1 => ?_) (fun c_1 => ?_)
  · have h := h.1 c_1
    refine lv_aload_n hx hb dX7_canBy_15 rfl (lv_at hl 0 rfl) ?_
    refine lv_iload_n hx hb dX7_canBy_16 rfl (lv_at hl 3 rfl) ?_
    have hFc := fr_self hD hS hA
    refine gv_i (va_runV (As := [.int x3]) (rest := []) ⟨hx, hb, hml, hown, hts⟩ (c_X7_isDancer l D k a S0 H.size x3 _ h) (cwV 1 hts gX7_canBy_X7_isDancer rfl rfl rfl (by decide +kernel) ⟨Nat.le_of_ble_eq_true rfl, Nat.le_of_ble_eq_true rfl⟩) (gv_preV hK hnw hP hD (ci := 7) rfl 0 rfl) rfl rfl hl.1 rfl (lv_room (Nat.le_of_ble_eq_true rfl)) dX7_canBy_17 ⟨Nat.zero_le _, Nat.zero_le _⟩) hS hFc (fun r_2 u_3 H locs h hP1 hD1 hk1 hS => ?_)
    have hP := hP1
    have hD := hD1.weaken (fun _ _ _ z => hFc _ z)
    refine lv_if_eq (tgt := 41) hx hb dX7_canBy_20 (by decide) (fun c_4 => ?_) (fun c_4 => ?_)
    · have h := h.1 c_4
      refine lv_iconst (v := (0 : Int32)) hx hb dX7_canBy_41 (by decide) ?_
      exact W.zret (v := (0 : Int32)) hx hb hr rfl (fun t ht hW => ⟨⟨(0 : Int32), u_3, rfl, h, by rw [ht]; exact hP, va_K.moved hW.alike hK, hD⟩, hS.F ht⟩) hS.2.2 dX7_canBy_42
    · have h := h.2 c_4
      refine lv_aload_n hx hb dX7_canBy_23 rfl (lv_at hl 0 rfl) ?_
      refine lv_iload_n hx hb dX7_canBy_24 rfl (lv_at hl 1 rfl) ?_
      refine lv_iload_n hx hb dX7_canBy_25 rfl (lv_at hl 2 rfl) ?_
      have hFc := fr_self hD hS hA
      refine gv_i (va_runV (As := [.int x1, .int x2]) (rest := []) ⟨hx, hb, hml, hown, hts⟩ (c_X7_bringersOf l D k a u_3 H.size x1 x2 _ h) (cwV 2 hts gX7_canBy_X7_bringersOf rfl rfl rfl (by decide +kernel) ⟨Nat.le_of_ble_eq_true rfl, Nat.le_of_ble_eq_true rfl⟩) (gv_preV hK hnw hP hD (ci := 7) rfl 0 rfl) rfl rfl hl.1 rfl (lv_room (Nat.le_of_ble_eq_true rfl)) dX7_canBy_26 ⟨Nat.zero_le _, Nat.zero_le _⟩) hS hFc (fun r_5 u_6 H locs h hP1 hD1 hk1 hS => ?_)
      have hP := hP1
      have hD := hD1.weaken (fun _ _ _ z => hFc _ z)
      refine lv_iload_n hx hb dX7_canBy_29 rfl (lv_at hl 3 rfl) ?_
      refine lv_ishr hx hb dX7_canBy_30 ?_
      refine lv_iconst (v := (1 : Int32)) hx hb dX7_canBy_31 (by decide) ?_
      refine lv_iand hx hb dX7_canBy_32 ?_
      refine lv_iconst (v := (1 : Int32)) hx hb dX7_canBy_33 (by decide) ?_
      refine lv_icmp_ne (tgt := 41) hx hb dX7_canBy_34 (by decide) (fun c_7 => ?_) (fun c_7 => ?_)
      · have h := h.1 c_7
        refine lv_iconst (v := (0 : Int32)) hx hb dX7_canBy_41 (by decide) ?_
        exact W.zret (v := (0 : Int32)) hx hb hr rfl (fun t ht hW => ⟨⟨(0 : Int32), u_6, rfl, h, by rw [ht]; exact hP, va_K.moved hW.alike hK, hD⟩, hS.F ht⟩) hS.2.2 dX7_canBy_42
      · have h := h.2 c_7
        refine lv_iconst (v := (1 : Int32)) hx hb dX7_canBy_37 (by decide) ?_
        refine lv_goto (tgt := 42) hx hb dX7_canBy_38 (by decide) ?_
        exact W.zret (v := (1 : Int32)) hx hb hr rfl (fun t ht hW => ⟨⟨(1 : Int32), u_6, rfl, h, by rw [ht]; exact hP, va_K.moved hW.alike hK, hD⟩, hS.F ht⟩) hS.2.2 dX7_canBy_42
  · have h := h.2 c_1
    refine lv_aload_n hx hb dX7_canBy_6 rfl (lv_at hl 0 rfl) ?_
    refine lv_iload_n hx hb dX7_canBy_7 rfl (lv_at hl 1 rfl) ?_
    refine lv_iload_n hx hb dX7_canBy_8 rfl (lv_at hl 2 rfl) ?_
    have hFc := fr_self hD hS hA
    refine gv_i (va_runV (As := [.int x1, .int x2]) (rest := []) ⟨hx, hb, hml, hown, hts⟩ (c_X7_areCousins l D k a S0 H.size x1 x2 _ h) (cwV 2 hts gX7_canBy_X7_areCousins rfl rfl rfl (by decide +kernel) ⟨Nat.le_of_ble_eq_true rfl, Nat.le_of_ble_eq_true rfl⟩) (gv_preV hK hnw hP hD (ci := 7) rfl 0 rfl) rfl rfl hl.1 rfl (lv_room (Nat.le_of_ble_eq_true rfl)) dX7_canBy_9 ⟨Nat.zero_le _, Nat.zero_le _⟩) hS hFc (fun r_8 u_9 H locs h hP1 hD1 hk1 hS => ?_)
    have hP := hP1
    have hD := hD1.weaken (fun _ _ _ z => hFc _ z)
    refine lv_goto (tgt := 42) hx hb dX7_canBy_12 (by decide) ?_
    exact W.zret (v := r_8) hx hb hr (bz_narrow h.1) (fun t ht hW => ⟨⟨r_8, u_9, rfl, h.2, by rw [ht]; exact hP, va_K.moved hW.alike hK, hD⟩, hS.F ht⟩) hS.2.2 dX7_canBy_42
/-! X7_dance -/
def wp_X7_dance (S0 : St) (x1 : Int32) (x2 : Int32) (x3 : Int32) (Q : Int32 → St → Prop) : Prop := wp_X7_areTwo S0 x1 x2 (fun r_1 u_2 => ((¬ r_1 = 0) → (wp_X7_mayDance u_2 x1 x2 (fun r_4 u_5 => ((r_4 = 0) → (wp_X7_no u_5 (-3 : Int32) (fun r_7 u_8 => Q r_7 u_8))) ∧ ((¬ r_4 = 0) → (wp_X7_canBy u_5 x1 x2 x3 (fun r_9 u_10 => ((¬ r_9 = 0) → (wp_X7_dances u_10 x1 x2 x3 (fun u_13 => wp_X7_pairsDanced u_13 (fun r_14 u_15 => Q r_14 u_15)))) ∧ ((r_9 = 0) → (wp_X7_no u_10 (-3 : Int32) (fun r_16 u_17 => Q r_16 u_17))))))))) ∧ ((r_1 = 0) → (wp_X7_no u_2 (-1 : Int32) (fun r_18 u_19 => Q r_18 u_19))))
abbrev rmX7_dance : Room := { frames := 4, cells := 0, slots := 0, locals := 96 }
set_option maxRecDepth 100000 in
set_option maxHeartbeats 4000000 in
theorem c_X7_dance (l : Launch) (D : va_G) (k : Nat → ClassId) (a : Nat → Nat) (S0 : St) (sz : Nat) (x1 : Int32) (x2 : Int32) (x3 : Int32) (Q : Int32 → St → Prop) (h : wp_X7_dance S0 x1 x2 x3 Q) : Met l yX7_dance wsX7_dance rmX7_dance (cPc D k (wMo k a S0) [.ref (a 0), .int x1, .int x2, .int x3] sz) (va_Qi (fun (r : Int32) (u : St) => Q r u) (cB D k (va_A (wMo k a S0) sz) (fun u : St => wMo k a u)) (va_A (wMo k a S0) sz)) 0 0 (va_A (wMo k a S0) sz) := by
  refine ct_entry (cc := cX7_dance) (maxL := 4) (ret := (some .int)) (Rn := RX7) (Qc := fun A => (va_Qi (fun (r : Int32) (u : St) => Q r u) (cB D k A (fun u : St => wMo k a u)) A)) (by decide) rfl rfl (Nat.le_of_ble_eq_true rfl) ?_
  intro p e s m below meth c hx hb hr hlocks hml hts hown hnw hK A hA H locs hP hD hS ls hl
  have hl : lv_has ls 4 [(0, .ref (a 0)), (1, .int x1), (2, .int x2), (3, .int x3)] := hl
  unfold wp_X7_dance at h
  refine lv_aload_n hx hb dX7_dance_0 rfl (lv_at hl 0 rfl) ?_
  refine lv_iload_n hx hb dX7_dance_1 rfl (lv_at hl 1 rfl) ?_
  refine lv_iload_n hx hb dX7_dance_2 rfl (lv_at hl 2 rfl) ?_
  have hFc := fr_self hD hS hA
  refine gv_i (va_runV (As := [.int x1, .int x2]) (rest := []) ⟨hx, hb, hml, hown, hts⟩ (c_X7_areTwo l D k a S0 H.size x1 x2 _ h) (cwV 2 hts gX7_dance_X7_areTwo rfl rfl rfl (by decide +kernel) ⟨Nat.le_of_ble_eq_true rfl, Nat.le_of_ble_eq_true rfl⟩) (gv_preV hK hnw hP hD (ci := 7) rfl 0 rfl) rfl rfl hl.1 rfl (lv_room (Nat.le_of_ble_eq_true rfl)) dX7_dance_3 ⟨Nat.zero_le _, Nat.zero_le _⟩) hS hFc (fun r_1 u_2 H locs h hP1 hD1 hk1 hS => ?_)
  have hP := hP1
  have hD := hD1.weaken (fun _ _ _ z => hFc _ z)
  refine lv_if_ne (tgt := 15) hx hb dX7_dance_6 (by decide) (fun c_3 => ?_) (fun c_3 => ?_)
  · have h := h.1 c_3
    refine lv_aload_n hx hb dX7_dance_15 rfl (lv_at hl 0 rfl) ?_
    refine lv_iload_n hx hb dX7_dance_16 rfl (lv_at hl 1 rfl) ?_
    refine lv_iload_n hx hb dX7_dance_17 rfl (lv_at hl 2 rfl) ?_
    have hFc := fr_self hD hS hA
    refine gv_i (va_runV (As := [.int x1, .int x2]) (rest := []) ⟨hx, hb, hml, hown, hts⟩ (c_X7_mayDance l D k a u_2 H.size x1 x2 _ h) (cwV 2 hts gX7_dance_X7_mayDance rfl rfl rfl (by decide +kernel) ⟨Nat.le_of_ble_eq_true rfl, Nat.le_of_ble_eq_true rfl⟩) (gv_preV hK hnw hP hD (ci := 7) rfl 0 rfl) rfl rfl hl.1 rfl (lv_room (Nat.le_of_ble_eq_true rfl)) dX7_dance_18 ⟨Nat.zero_le _, Nat.zero_le _⟩) hS hFc (fun r_4 u_5 H locs h hP1 hD1 hk1 hS => ?_)
    have hP := hP1
    have hD := hD1.weaken (fun _ _ _ z => hFc _ z)
    refine lv_if_eq (tgt := 34) hx hb dX7_dance_21 (by decide) (fun c_6 => ?_) (fun c_6 => ?_)
    · have h := h.1 c_6
      refine lv_aload_n hx hb dX7_dance_34 rfl (lv_at hl 0 rfl) ?_
      refine lv_bipush (v := (-3 : Int32)) hx hb dX7_dance_35 (by decide) ?_
      have hFc := fr_self hD hS hA
      refine gv_i (va_runV (As := [.int (-3 : Int32)]) (rest := []) ⟨hx, hb, hml, hown, hts⟩ (c_X7_no l D k a u_5 H.size (-3 : Int32) _ h) (cwV 1 hts gX7_dance_X7_no rfl rfl rfl (by decide +kernel) ⟨Nat.le_of_ble_eq_true rfl, Nat.le_of_ble_eq_true rfl⟩) (gv_preV hK hnw hP hD (ci := 7) rfl 0 rfl) rfl rfl hl.1 rfl (lv_room (Nat.le_of_ble_eq_true rfl)) dX7_dance_37 ⟨Nat.zero_le _, Nat.zero_le _⟩) hS hFc (fun r_7 u_8 H locs h hP1 hD1 hk1 hS => ?_)
      have hP := hP1
      have hD := hD1.weaken (fun _ _ _ z => hFc _ z)
      exact W.iret (v := r_7) hx hb hr (fun t ht hW => ⟨⟨r_7, u_8, rfl, h, by rw [ht]; exact hP, va_K.moved hW.alike hK, hD⟩, hS.F ht⟩) hS.2.2 dX7_dance_40
    · have h := h.2 c_6
      refine lv_aload_n hx hb dX7_dance_24 rfl (lv_at hl 0 rfl) ?_
      refine lv_iload_n hx hb dX7_dance_25 rfl (lv_at hl 1 rfl) ?_
      refine lv_iload_n hx hb dX7_dance_26 rfl (lv_at hl 2 rfl) ?_
      refine lv_iload_n hx hb dX7_dance_27 rfl (lv_at hl 3 rfl) ?_
      have hFc := fr_self hD hS hA
      refine gv_i (va_runV (As := [.int x1, .int x2, .int x3]) (rest := []) ⟨hx, hb, hml, hown, hts⟩ (c_X7_canBy l D k a u_5 H.size x1 x2 x3 _ h) (cwV 3 hts gX7_dance_X7_canBy rfl rfl rfl (by decide +kernel) ⟨Nat.le_of_ble_eq_true rfl, Nat.le_of_ble_eq_true rfl⟩) (gv_preV hK hnw hP hD (ci := 7) rfl 0 rfl) rfl rfl hl.1 rfl (lv_room (Nat.le_of_ble_eq_true rfl)) dX7_dance_28 ⟨Nat.zero_le _, Nat.zero_le _⟩) hS hFc (fun r_9 u_10 H locs h hP1 hD1 hk1 hS => ?_)
      have hP := hP1
      have hD := hD1.weaken (fun _ _ _ z => hFc _ z)
      refine lv_if_ne (tgt := 41) hx hb dX7_dance_31 (by decide) (fun c_11 => ?_) (fun c_11 => ?_)
      · have h := h.1 c_11
        refine lv_aload_n hx hb dX7_dance_41 rfl (lv_at hl 0 rfl) ?_
        refine lv_iload_n hx hb dX7_dance_42 rfl (lv_at hl 1 rfl) ?_
        refine lv_iload_n hx hb dX7_dance_43 rfl (lv_at hl 2 rfl) ?_
        refine lv_iload_n hx hb dX7_dance_44 rfl (lv_at hl 3 rfl) ?_
        have hFc := fr_self hD hS hA
        refine gv_v (va_runV (As := [.int x1, .int x2, .int x3]) (rest := []) ⟨hx, hb, hml, hown, hts⟩ (c_X7_dances l D k a u_10 H.size x1 x2 x3 _ h) (cwV 3 hts gX7_dance_X7_dances rfl rfl rfl (by decide +kernel) ⟨Nat.le_of_ble_eq_true rfl, Nat.le_of_ble_eq_true rfl⟩) (gv_preV hK hnw hP hD (ci := 7) rfl 0 rfl) rfl rfl hl.1 rfl (lv_room (Nat.le_of_ble_eq_true rfl)) dX7_dance_45 ⟨Nat.zero_le _, Nat.zero_le _⟩) hS hFc (fun u_13 H locs h hP1 hD1 hk1 hS => ?_)
        have hP := hP1
        have hD := hD1.weaken (fun _ _ _ z => hFc _ z)
        refine lv_aload_n hx hb dX7_dance_48 rfl (lv_at hl 0 rfl) ?_
        have hFc := fr_self hD hS hA
        refine gv_i (va_runV (As := []) (rest := []) ⟨hx, hb, hml, hown, hts⟩ (c_X7_pairsDanced l D k a u_13 H.size _ h) (cwV 0 hts gX7_dance_X7_pairsDanced rfl rfl rfl (by decide +kernel) ⟨Nat.le_of_ble_eq_true rfl, Nat.le_of_ble_eq_true rfl⟩) (gv_preV hK hnw hP hD (ci := 7) rfl 0 rfl) rfl rfl hl.1 rfl (lv_room (Nat.le_of_ble_eq_true rfl)) dX7_dance_49 ⟨Nat.zero_le _, Nat.zero_le _⟩) hS hFc (fun r_14 u_15 H locs h hP1 hD1 hk1 hS => ?_)
        have hP := hP1
        have hD := hD1.weaken (fun _ _ _ z => hFc _ z)
        exact W.iret (v := r_14) hx hb hr (fun t ht hW => ⟨⟨r_14, u_15, rfl, h, by rw [ht]; exact hP, va_K.moved hW.alike hK, hD⟩, hS.F ht⟩) hS.2.2 dX7_dance_52
      · have h := h.2 c_11
        refine lv_aload_n hx hb dX7_dance_34 rfl (lv_at hl 0 rfl) ?_
        refine lv_bipush (v := (-3 : Int32)) hx hb dX7_dance_35 (by decide) ?_
        have hFc := fr_self hD hS hA
        refine gv_i (va_runV (As := [.int (-3 : Int32)]) (rest := []) ⟨hx, hb, hml, hown, hts⟩ (c_X7_no l D k a u_10 H.size (-3 : Int32) _ h) (cwV 1 hts gX7_dance_X7_no rfl rfl rfl (by decide +kernel) ⟨Nat.le_of_ble_eq_true rfl, Nat.le_of_ble_eq_true rfl⟩) (gv_preV hK hnw hP hD (ci := 7) rfl 0 rfl) rfl rfl hl.1 rfl (lv_room (Nat.le_of_ble_eq_true rfl)) dX7_dance_37 ⟨Nat.zero_le _, Nat.zero_le _⟩) hS hFc (fun r_16 u_17 H locs h hP1 hD1 hk1 hS => ?_)
        have hP := hP1
        have hD := hD1.weaken (fun _ _ _ z => hFc _ z)
        exact W.iret (v := r_16) hx hb hr (fun t ht hW => ⟨⟨r_16, u_17, rfl, h, by rw [ht]; exact hP, va_K.moved hW.alike hK, hD⟩, hS.F ht⟩) hS.2.2 dX7_dance_40
  · have h := h.2 c_3
    refine lv_aload_n hx hb dX7_dance_9 rfl (lv_at hl 0 rfl) ?_
    refine lv_iconst (v := (-1 : Int32)) hx hb dX7_dance_10 (by decide) ?_
    have hFc := fr_self hD hS hA
    refine gv_i (va_runV (As := [.int (-1 : Int32)]) (rest := []) ⟨hx, hb, hml, hown, hts⟩ (c_X7_no l D k a u_2 H.size (-1 : Int32) _ h) (cwV 1 hts gX7_dance_X7_no rfl rfl rfl (by decide +kernel) ⟨Nat.le_of_ble_eq_true rfl, Nat.le_of_ble_eq_true rfl⟩) (gv_preV hK hnw hP hD (ci := 7) rfl 0 rfl) rfl rfl hl.1 rfl (lv_room (Nat.le_of_ble_eq_true rfl)) dX7_dance_11 ⟨Nat.zero_le _, Nat.zero_le _⟩) hS hFc (fun r_18 u_19 H locs h hP1 hD1 hk1 hS => ?_)
    have hP := hP1
    have hD := hD1.weaken (fun _ _ _ z => hFc _ z)
    exact W.iret (v := r_18) hx hb hr (fun t ht hW => ⟨⟨r_18, u_19, rfl, h, by rw [ht]; exact hP, va_K.moved hW.alike hK, hD⟩, hS.F ht⟩) hS.2.2 dX7_dance_14
