/-! X3_firstAdded -/
def wp_X3_firstAdded_16 (Q : Int32 → (Nat → St) → St → Prop) : Nat → (Nat → St) → St → Int32 → Prop
  | 0, _, _, _ => False
  | n + 1, S0, S1, x2 => (((3 : Int32) < x2) → (Q (-9 : Int32) S0 S1)) ∧ ((¬ (3 : Int32) < x2) → (wp_X3_firstOfSet 4 S0 S1 (0 : Int32) x2 (1 : Int32) (fun r_11 u_12 u_13 => ((r_11 = (-9 : Int32)) → (wp_X3_firstAdded_16 Q n u_12 u_13 (x2 + 1))) ∧ ((¬ r_11 = (-9 : Int32)) → (Q r_11 u_12 u_13)))))
def wp_X3_firstAdded (S0 : Nat → St) (S1 : St) (Q : Int32 → (Nat → St) → St → Prop) : Prop := wp_X3_settled S0 S1 (fun u_2 u_3 => wp_X0_isFull (u_2 0) (fun r_5 u_6 => ∀ S_7, S_7 = (va_up u_2 0 u_6) → (((r_5 = 0) → (∃ i, wp_X3_firstAdded_16 Q i S_7 u_3 (1 : Int32))) ∧ ((¬ r_5 = 0) → (Q (-9 : Int32) S_7 u_3)))))
abbrev rmX3_firstAdded : Room := { frames := 9, cells := 0, slots := 0, locals := 223 }
set_option maxRecDepth 100000 in
set_option maxHeartbeats 4000000 in
theorem c_X3_firstAdded (l : Launch) (D : va_G) (k : Nat → ClassId) (a : Nat → Nat) (b : Nat → Nat) (S0 : Nat → St) (S1 : St) (sz : Nat) (Q : Int32 → (Nat → St) → St → Prop) (h : wp_X3_firstAdded S0 S1 Q) : Met l yX3_firstAdded wsX3_firstAdded rmX3_firstAdded (cPc D k (wHo k a S0 ++ wFl k b S1) [.ref (a 0), .ref (b 0)] sz) (va_Qi (fun (r : Int32) (u : (Nat → St) × St) => Q r u.1 u.2) (cB D k (va_A (wHo k a S0 ++ wFl k b S1) sz) (fun u : (Nat → St) × St => wHo k a u.1 ++ wFl k b u.2)) (va_A (wHo k a S0 ++ wFl k b S1) sz)) 0 0 (va_A (wHo k a S0 ++ wFl k b S1) sz) := by
  refine ct_entry (cc := cX3_firstAdded) (maxL := 4) (ret := (some .int)) (Rn := RX3) (Qc := fun A => (va_Qi (fun (r : Int32) (u : (Nat → St) × St) => Q r u.1 u.2) (cB D k A (fun u : (Nat → St) × St => wHo k a u.1 ++ wFl k b u.2)) A)) (by decide) rfl rfl (Nat.le_of_ble_eq_true rfl) ?_
  intro p e s m below meth c hx hb hr hlocks hml hts hown hnw hK A hA H locs hP hD hS ls hl
  have hl : lv_has ls 4 [(0, .ref (a 0)), (1, .ref (b 0))] := hl
  have L_16 : ∀ (n : Nat), ∀ (S0 : Nat → St) (S1 : St) (x2 : Int32), ∀ (H : Heap) (locs : List Loc) (ls : Array Slot), va_P D vwCl (wHo k a S0 ++ wFl k b S1) H → va_D A (wHo k a S0 ++ wFl k b S1) → va_S A s.heap H locs → lv_has ls 4 [(0, .ref (a 0)), (1, .ref (b 0)), (2, .int x2)] → wp_X3_firstAdded_16 Q n S0 S1 x2 → W p l e rmX3_firstAdded s m ([.ref (a 0), .ref (b 0)] : List Value).toArray below meth c H locs 0 0 (MQ below (va_Qi (fun (r : Int32) (u : (Nat → St) × St) => Q r u.1 u.2) (cB D k A (fun u : (Nat → St) × St => wHo k a u.1 ++ wFl k b u.2)) A) ([.ref (a 0), .ref (b 0)] : List Value).toArray s 0 0 A) (F0 m 16 ls []) := by
    intro n
    induction n with
    | zero => intro S0 S1 x2 H locs ls hP hD hS hl h; exact absurd h (by unfold wp_X3_firstAdded_16; exact id)
    | succ n ih =>
      intro S0 S1 x2 H locs ls hP hD hS hl h
      unfold wp_X3_firstAdded_16 at h
      refine lv_iload_n hx hb dX3_firstAdded_16 rfl (lv_at hl 2 rfl) ?_
      refine lv_iconst (v := (3 : Int32)) hx hb dX3_firstAdded_17 (by decide) ?_
      refine lv_icmp_gt (tgt := 44) hx hb dX3_firstAdded_18 (by decide) (fun c_10 => ?_) (fun c_10 => ?_)
      · have h := h.1 c_10
        refine lv_bipush (v := (-9 : Int32)) hx hb dX3_firstAdded_44 (by decide) ?_
        exact W.iret (v := (-9 : Int32)) hx hb hr (fun t ht hW => ⟨⟨(-9 : Int32), (S0, S1), rfl, h, by rw [ht]; exact hP, va_K.moved hW.alike hK, hD⟩, hS.F ht⟩) hS.2.2 dX3_firstAdded_46
      · have h := h.2 c_10
        refine lv_aload_n hx hb dX3_firstAdded_21 rfl (lv_at hl 0 rfl) ?_
        refine lv_aload_n hx hb dX3_firstAdded_22 rfl (lv_at hl 1 rfl) ?_
        refine lv_iconst (v := (0 : Int32)) hx hb dX3_firstAdded_23 (by decide) ?_
        refine lv_iload_n hx hb dX3_firstAdded_24 rfl (lv_at hl 2 rfl) ?_
        refine lv_iconst (v := (1 : Int32)) hx hb dX3_firstAdded_25 (by decide) ?_
        have hFc := fr_self hD hS hA
        refine gv_i (va_runV (As := [.ref (b 0), .int (0 : Int32), .int x2, .int (1 : Int32)]) (rest := []) ⟨hx, hb, hml, hown, hts⟩ (c_X3_firstOfSet l D k 4 a b S0 S1 H.size (0 : Int32) x2 (1 : Int32) _ h) (cwV 4 hts gX3_firstAdded_X3_firstOfSet rfl rfl rfl (by decide +kernel) ⟨Nat.le_of_ble_eq_true rfl, Nat.le_of_ble_eq_true rfl⟩) (gv_preV hK hnw hP hD (ci := 3) rfl 0 rfl) rfl rfl hl.1 rfl (lv_room (Nat.le_of_ble_eq_true rfl)) dX3_firstAdded_26 ⟨Nat.zero_le _, Nat.zero_le _⟩) hS hFc (fun r_11 w_14 H locs h hP1 hD1 hk1 hS => ?_)
        obtain ⟨u_12, u_13⟩ := w_14
        have hP := hP1
        have hD := hD1.weaken (fun _ _ _ z => hFc _ z)
        refine lv_istore_n (lv' := [(3, .int r_11), (0, .ref (a 0)), (1, .ref (b 0)), (2, .int x2)]) hx hb dX3_firstAdded_29 rfl hl (by decide) rfl (fun ls hl => ?_)
        refine lv_iload_n hx hb dX3_firstAdded_30 rfl (lv_at hl 0 rfl) ?_
        refine lv_bipush (v := (-9 : Int32)) hx hb dX3_firstAdded_31 (by decide) ?_
        refine lv_icmp_eq (tgt := 38) hx hb dX3_firstAdded_33 (by decide) (fun c_15 => ?_) (fun c_15 => ?_)
        · have h := h.1 c_15
          refine lv_iinc (v := (x2 + 1)) (lv' := [(2, .int (x2 + 1)), (3, .int r_11), (0, .ref (a 0)), (1, .ref (b 0))]) hx hb dX3_firstAdded_38 hl (k := 3) rfl rfl (by decide) rfl (fun ls hl => ?_)
          refine lv_goto (tgt := 16) hx hb dX3_firstAdded_41 (by decide) ?_
          exact ih u_12 u_13 (x2 + 1) H locs ls hP hD hS (lv_sub hl [2, 3, 0] rfl) h
        · have h := h.2 c_15
          refine lv_iload_n hx hb dX3_firstAdded_36 rfl (lv_at hl 0 rfl) ?_
          exact W.iret (v := r_11) hx hb hr (fun t ht hW => ⟨⟨r_11, (u_12, u_13), rfl, h, by rw [ht]; exact hP, va_K.moved hW.alike hK, hD⟩, hS.F ht⟩) hS.2.2 dX3_firstAdded_37
  unfold wp_X3_firstAdded at h
  refine lv_aload_n hx hb dX3_firstAdded_0 rfl (lv_at hl 0 rfl) ?_
  refine lv_aload_n hx hb dX3_firstAdded_1 rfl (lv_at hl 1 rfl) ?_
  have hFc := fr_self hD hS hA
  refine gv_r (va_runV (As := [.ref (b 0)]) (rest := []) ⟨hx, hb, hml, hown, hts⟩ (c_X3_settled l D k a b S0 S1 H.size _ h) (cwV 1 hts gX3_firstAdded_X3_settled rfl rfl rfl (by decide +kernel) ⟨Nat.le_of_ble_eq_true rfl, Nat.le_of_ble_eq_true rfl⟩) (gv_preV hK hnw hP hD (ci := 3) rfl 0 rfl) rfl rfl hl.1 rfl (lv_room (Nat.le_of_ble_eq_true rfl)) dX3_firstAdded_2 ⟨Nat.zero_le _, Nat.zero_le _⟩) hS hFc (fun w_4 H locs h hP1 hD1 hk1 hS => ?_)
  obtain ⟨u_2, u_3⟩ := w_4
  have hP := hP1
  have hD := hD1.weaken (fun _ _ _ z => hFc _ z)
  refine W.eq (g2 := F0 m 5 ls [.ref (a 2)]) rfl ?_
  have hPc := fc7_P hP
  have hDc := fc7_D hD
  have hFc := fr_self hDc hS hA
  refine gv_i (va_runV (As := []) (rest := []) ⟨hx, hb, hml, hown, hts⟩ (c_X0_isFull l D k (sh a 2) (u_2 0) H.size _ h) (cwV 0 hts gX3_firstAdded_X0_isFull rfl rfl rfl (by decide +kernel) ⟨Nat.le_of_ble_eq_true rfl, Nat.le_of_ble_eq_true rfl⟩) (gv_preV hK hnw hPc hDc (ci := 0) rfl 0 rfl) rfl rfl hl.1 rfl (lv_room (Nat.le_of_ble_eq_true rfl)) dX3_firstAdded_5 ⟨Nat.zero_le _, Nat.zero_le _⟩) hS hFc (fun r_5 u_6 H locs h hP1 hD1 hk1 hS => ?_)
  obtain ⟨hP, hD⟩ := fc7_J hP hD hk1 hFc hP1 hD1
  obtain ⟨S_7, e_8⟩ : ∃ z : Nat → St, z = (va_up u_2 0 u_6) := ⟨_, rfl⟩
  have h := h S_7 e_8
  have hP : va_P D vwCl (wHo k a S_7 ++ wFl k b u_3) H := by rw [e_8]; exact hP
  have hD : va_D A (wHo k a S_7 ++ wFl k b u_3) := by rw [e_8]; exact hD
  refine lv_if_eq (tgt := 14) hx hb dX3_firstAdded_8 (by decide) (fun c_9 => ?_) (fun c_9 => ?_)
  · have h := h.1 c_9
    refine lv_iconst (v := (1 : Int32)) hx hb dX3_firstAdded_14 (by decide) ?_
    refine lv_istore_n (lv' := [(2, .int (1 : Int32)), (0, .ref (a 0)), (1, .ref (b 0))]) hx hb dX3_firstAdded_15 rfl hl (by decide) rfl (fun ls hl => ?_)
    obtain ⟨n_16, h⟩ := h
    exact L_16 n_16 S_7 u_3 (1 : Int32) H locs ls hP hD hS (lv_sub hl [1, 2, 0] rfl) h
  · have h := h.2 c_9
    refine lv_bipush (v := (-9 : Int32)) hx hb dX3_firstAdded_11 (by decide) ?_
    exact W.iret (v := (-9 : Int32)) hx hb hr (fun t ht hW => ⟨⟨(-9 : Int32), (S_7, u_3), rfl, h, by rw [ht]; exact hP, va_K.moved hW.alike hK, hD⟩, hS.F ht⟩) hS.2.2 dX3_firstAdded_13
/-! X3_isNeverWithout -/
def wp_X3_isNeverWithout (S0 : Nat → St) (S1 : St) (x2 : Int32) (x3 : Int32) (x4 : Int32) (Q : Int32 → (Nat → St) → St → Prop) : Prop := wp_X0_begin (S0 0) S1 (fun u_2 u_3 => ∀ S_5, S_5 = (va_up S0 0 u_2) → (wp_X0_partPair (S_5 0) x3 (fun u_8 => ∀ S_9, S_9 = (va_up S_5 0 u_8) → (wp_X0_partPair (S_9 0) x4 (fun u_12 => ∀ S_13, S_13 = (va_up S_9 0 u_12) → (wp_X0_settle (S_13 0) (fun u_16 => ∀ S_17, S_17 = (va_up S_13 0 u_16) → (wp_X6_lesserOf x2 (fun r_19 => wp_X6_greaterOf x2 (fun r_20 => wp_X0_haveDanced (S_17 0) r_19 r_20 (fun r_21 u_22 => ∀ S_23, S_23 = (va_up S_17 0 u_22) → (((¬ r_21 = 0) → (Q (0 : Int32) S_23 u_3)) ∧ ((r_21 = 0) → (Q (1 : Int32) S_23 u_3))))))))))))))
abbrev rmX3_isNeverWithout : Room := { frames := 4, cells := 0, slots := 0, locals := 88 }
set_option maxRecDepth 100000 in
set_option maxHeartbeats 4000000 in
theorem c_X3_isNeverWithout (l : Launch) (D : va_G) (k : Nat → ClassId) (a : Nat → Nat) (b : Nat → Nat) (S0 : Nat → St) (S1 : St) (sz : Nat) (x2 : Int32) (x3 : Int32) (x4 : Int32) (Q : Int32 → (Nat → St) → St → Prop) (h : wp_X3_isNeverWithout S0 S1 x2 x3 x4 Q) : Met l yX3_isNeverWithout wsX3_isNeverWithout rmX3_isNeverWithout (cPc D k (wHo k a S0 ++ wFl k b S1) [.ref (a 0), .ref (b 0), .int x2, .int x3, .int x4] sz) (va_Qi (fun (r : Int32) (u : (Nat → St) × St) => Q r u.1 u.2) (cB D k (va_A (wHo k a S0 ++ wFl k b S1) sz) (fun u : (Nat → St) × St => wHo k a u.1 ++ wFl k b u.2)) (va_A (wHo k a S0 ++ wFl k b S1) sz)) 0 0 (va_A (wHo k a S0 ++ wFl k b S1) sz) := by
  refine ct_entry (cc := cX3_isNeverWithout) (maxL := 6) (ret := (some .boolean)) (Rn := RX3) (Qc := fun A => (va_Qi (fun (r : Int32) (u : (Nat → St) × St) => Q r u.1 u.2) (cB D k A (fun u : (Nat → St) × St => wHo k a u.1 ++ wFl k b u.2)) A)) (by decide) rfl rfl (Nat.le_of_ble_eq_true rfl) ?_
  intro p e s m below meth c hx hb hr hlocks hml hts hown hnw hK A hA H locs hP hD hS ls hl
  have hl : lv_has ls 6 [(0, .ref (a 0)), (1, .ref (b 0)), (2, .int x2), (3, .int x3), (4, .int x4)] := hl
  have ln_11 := hts (.fieldLink RX3 11 "WithTheSameOne$Hopes" "ends" "[LWithTheSameOne$Ending;") (by decide +kernel)
  have ni_X6 := hts (.initialized RX6) (by decide +kernel)
  have ns_yX6_greaterOf := hts (.static yX6_greaterOf) (by decide +kernel)
  have ns_yX6_lesserOf := hts (.static yX6_lesserOf) (by decide +kernel)
  have in_Ho : ∀ w ∈ wsX30, w ∈ wsX3_isNeverWithout := fun _ h => List.mem_cons_of_mem _ (List.mem_append_left _ (List.mem_append_left _ (List.mem_append_right _ h)))
  unfold wp_X3_isNeverWithout at h
  refine lv_aload_n hx hb dX3_isNeverWithout_0 rfl (lv_at hl 0 rfl) ?_
  refine va_get (D := D) (ci := 3) (v := .ref (a 1)) (C := RX3) (T := TX3) (N := 1) hx hb hts in_Ho hown hK hP 0 rfl rfl 0 (by decide) ln_11 (fun _ h9 => h9) rfl dX3_isNeverWithout_1 ?_
  refine lv_iconst (v := (0 : Int32)) hx hb dX3_isNeverWithout_4 (by decide) ?_
  refine va_aldq (C := RX0) hx hb hK hP 1 2 rfl rfl (vp0 (by decide)) dX3_isNeverWithout_5 ?_
  refine W.eq (g2 := F0 m 6 ls [.ref (a 2)]) rfl ?_
  refine lv_astore (lv' := [(5, .ref (a 2)), (0, .ref (a 0)), (1, .ref (b 0)), (2, .int x2), (3, .int x3), (4, .int x4)]) hx hb dX3_isNeverWithout_6 hl (by decide) rfl (fun ls hl => ?_)
  refine lv_aload hx hb dX3_isNeverWithout_8 (lv_at hl 0 rfl) ?_
  refine lv_aload_n hx hb dX3_isNeverWithout_10 rfl (lv_at hl 2 rfl) ?_
  have hPc := fc6_P hP
  have hDc := fc6_D hD
  have hFc := fr_self hDc hS hA
  refine gv_v (va_runV (As := [.ref (b 0)]) (rest := []) ⟨hx, hb, hml, hown, hts⟩ (c_X0_begin l D k (sh a 2) b (S0 0) S1 H.size _ h) (cwV 1 hts gX3_isNeverWithout_X0_begin rfl rfl rfl (by decide +kernel) ⟨Nat.le_of_ble_eq_true rfl, Nat.le_of_ble_eq_true rfl⟩) (gv_preV hK hnw hPc hDc (ci := 0) rfl 0 rfl) rfl rfl hl.1 rfl (lv_room (Nat.le_of_ble_eq_true rfl)) dX3_isNeverWithout_11 ⟨Nat.zero_le _, Nat.zero_le _⟩) hS hFc (fun w_4 H locs h hP1 hD1 hk1 hS => ?_)
  obtain ⟨u_2, u_3⟩ := w_4
  obtain ⟨hP, hD⟩ := fc6_J hP hD hk1 hFc hP1 hD1
  obtain ⟨S_5, e_6⟩ : ∃ z : Nat → St, z = (va_up S0 0 u_2) := ⟨_, rfl⟩
  have h := h S_5 e_6
  have hP : va_P D vwCl (wHo k a S_5 ++ wFl k b u_3) H := by rw [e_6]; exact hP
  have hD : va_D A (wHo k a S_5 ++ wFl k b u_3) := by rw [e_6]; exact hD
  refine lv_aload hx hb dX3_isNeverWithout_14 (lv_at hl 0 rfl) ?_
  refine lv_iload_n hx hb dX3_isNeverWithout_16 rfl (lv_at hl 4 rfl) ?_
  have hPc := fc7_P hP
  have hDc := fc7_D hD
  have hFc := fr_self hDc hS hA
  refine gv_v (va_runV (As := [.int x3]) (rest := []) ⟨hx, hb, hml, hown, hts⟩ (c_X0_partPair l D k (sh a 2) (S_5 0) H.size x3 _ h) (cwV 1 hts gX3_isNeverWithout_X0_partPair rfl rfl rfl (by decide +kernel) ⟨Nat.le_of_ble_eq_true rfl, Nat.le_of_ble_eq_true rfl⟩) (gv_preV hK hnw hPc hDc (ci := 0) rfl 0 rfl) rfl rfl hl.1 rfl (lv_room (Nat.le_of_ble_eq_true rfl)) dX3_isNeverWithout_17 ⟨Nat.zero_le _, Nat.zero_le _⟩) hS hFc (fun u_8 H locs h hP1 hD1 hk1 hS => ?_)
  obtain ⟨hP, hD⟩ := fc7_J hP hD hk1 hFc hP1 hD1
  obtain ⟨S_9, e_10⟩ : ∃ z : Nat → St, z = (va_up S_5 0 u_8) := ⟨_, rfl⟩
  have h := h S_9 e_10
  have hP : va_P D vwCl (wHo k a S_9 ++ wFl k b u_3) H := by rw [e_10]; exact hP
  have hD : va_D A (wHo k a S_9 ++ wFl k b u_3) := by rw [e_10]; exact hD
  refine lv_aload hx hb dX3_isNeverWithout_20 (lv_at hl 0 rfl) ?_
  refine lv_iload hx hb dX3_isNeverWithout_22 (lv_at hl 5 rfl) ?_
  have hPc := fc7_P hP
  have hDc := fc7_D hD
  have hFc := fr_self hDc hS hA
  refine gv_v (va_runV (As := [.int x4]) (rest := []) ⟨hx, hb, hml, hown, hts⟩ (c_X0_partPair l D k (sh a 2) (S_9 0) H.size x4 _ h) (cwV 1 hts gX3_isNeverWithout_X0_partPair rfl rfl rfl (by decide +kernel) ⟨Nat.le_of_ble_eq_true rfl, Nat.le_of_ble_eq_true rfl⟩) (gv_preV hK hnw hPc hDc (ci := 0) rfl 0 rfl) rfl rfl hl.1 rfl (lv_room (Nat.le_of_ble_eq_true rfl)) dX3_isNeverWithout_24 ⟨Nat.zero_le _, Nat.zero_le _⟩) hS hFc (fun u_12 H locs h hP1 hD1 hk1 hS => ?_)
  obtain ⟨hP, hD⟩ := fc7_J hP hD hk1 hFc hP1 hD1
  obtain ⟨S_13, e_14⟩ : ∃ z : Nat → St, z = (va_up S_9 0 u_12) := ⟨_, rfl⟩
  have h := h S_13 e_14
  have hP : va_P D vwCl (wHo k a S_13 ++ wFl k b u_3) H := by rw [e_14]; exact hP
  have hD : va_D A (wHo k a S_13 ++ wFl k b u_3) := by rw [e_14]; exact hD
  refine lv_aload hx hb dX3_isNeverWithout_27 (lv_at hl 0 rfl) ?_
  have hPc := fc7_P hP
  have hDc := fc7_D hD
  have hFc := fr_self hDc hS hA
  refine gv_v (va_runV (As := []) (rest := []) ⟨hx, hb, hml, hown, hts⟩ (c_X0_settle l D k (sh a 2) (S_13 0) H.size _ h) (cwV 0 hts gX3_isNeverWithout_X0_settle rfl rfl rfl (by decide +kernel) ⟨Nat.le_of_ble_eq_true rfl, Nat.le_of_ble_eq_true rfl⟩) (gv_preV hK hnw hPc hDc (ci := 0) rfl 0 rfl) rfl rfl hl.1 rfl (lv_room (Nat.le_of_ble_eq_true rfl)) dX3_isNeverWithout_29 ⟨Nat.zero_le _, Nat.zero_le _⟩) hS hFc (fun u_16 H locs h hP1 hD1 hk1 hS => ?_)
  obtain ⟨hP, hD⟩ := fc7_J hP hD hk1 hFc hP1 hD1
  obtain ⟨S_17, e_18⟩ : ∃ z : Nat → St, z = (va_up S_13 0 u_16) := ⟨_, rfl⟩
  have h := h S_17 e_18
  have hP : va_P D vwCl (wHo k a S_17 ++ wFl k b u_3) H := by rw [e_18]; exact hP
  have hD : va_D A (wHo k a S_17 ++ wFl k b u_3) := by rw [e_18]; exact hD
  refine lv_aload hx hb dX3_isNeverWithout_32 (lv_at hl 0 rfl) ?_
  refine lv_iload_n hx hb dX3_isNeverWithout_34 rfl (lv_at hl 3 rfl) ?_
  refine gs_i (va_runSN (As := [.int x2]) (rest := [.ref (a 2)]) ⟨hx, hb, hml, hown, hts⟩ (c_X6_lesserOf l x2 _ h) ⟨va_cnB 1 hts gX3_isNeverWithout_X6_lesserOf_n76 rfl rfl rfl (hnw.1 _ (List.mem_of_getElem? (i := 10) rfl)) ni_X6 (by decide +kernel) ⟨Nat.le_of_ble_eq_true rfl, Nat.le_of_ble_eq_true rfl⟩, ns_yX6_lesserOf, trivial⟩ preEq rfl rfl hl.1 rfl (lv_room (Nat.le_of_ble_eq_true rfl)) dX3_isNeverWithout_35 ⟨Nat.zero_le _, Nat.zero_le _⟩) (fun r_19 h => ?_)
  refine lv_iload_n hx hb dX3_isNeverWithout_38 rfl (lv_at hl 3 rfl) ?_
  refine gs_i (va_runSN (As := [.int x2]) (rest := [.int r_19, .ref (a 2)]) ⟨hx, hb, hml, hown, hts⟩ (c_X6_greaterOf l x2 _ h) ⟨va_cnB 1 hts gX3_isNeverWithout_X6_greaterOf_n80 rfl rfl rfl (hnw.1 _ (List.mem_of_getElem? (i := 11) rfl)) ni_X6 (by decide +kernel) ⟨Nat.le_of_ble_eq_true rfl, Nat.le_of_ble_eq_true rfl⟩, ns_yX6_greaterOf, trivial⟩ preEq rfl rfl hl.1 rfl (lv_room (Nat.le_of_ble_eq_true rfl)) dX3_isNeverWithout_39 ⟨Nat.zero_le _, Nat.zero_le _⟩) (fun r_20 h => ?_)
  have hPc := fc7_P hP
  have hDc := fc7_D hD
  have hFc := fr_self hDc hS hA
  refine gv_i (va_runV (As := [.int r_19, .int r_20]) (rest := []) ⟨hx, hb, hml, hown, hts⟩ (c_X0_haveDanced l D k (sh a 2) (S_17 0) H.size r_19 r_20 _ h) (cwV 2 hts gX3_isNeverWithout_X0_haveDanced rfl rfl rfl (by decide +kernel) ⟨Nat.le_of_ble_eq_true rfl, Nat.le_of_ble_eq_true rfl⟩) (gv_preV hK hnw hPc hDc (ci := 0) rfl 0 rfl) rfl rfl hl.1 rfl (lv_room (Nat.le_of_ble_eq_true rfl)) dX3_isNeverWithout_42 ⟨Nat.zero_le _, Nat.zero_le _⟩) hS hFc (fun r_21 u_22 H locs h hP1 hD1 hk1 hS => ?_)
  obtain ⟨hP, hD⟩ := fc7_J hP hD hk1 hFc hP1 hD1
  obtain ⟨S_23, e_24⟩ : ∃ z : Nat → St, z = (va_up S_17 0 u_22) := ⟨_, rfl⟩
  have h := h S_23 e_24
  have hP : va_P D vwCl (wHo k a S_23 ++ wFl k b u_3) H := by rw [e_24]; exact hP
  have hD : va_D A (wHo k a S_23 ++ wFl k b u_3) := by rw [e_24]; exact hD
  refine lv_if_ne (tgt := 52) hx hb dX3_isNeverWithout_45 (by decide) (fun c_25 => ?_) (fun c_25 => ?_)
  · have h := h.1 c_25
    refine lv_iconst (v := (0 : Int32)) hx hb dX3_isNeverWithout_52 (by decide) ?_
    exact W.zret (v := (0 : Int32)) hx hb hr rfl (fun t ht hW => ⟨⟨(0 : Int32), (S_23, u_3), rfl, h, by rw [ht]; exact hP, va_K.moved hW.alike hK, hD⟩, hS.F ht⟩) hS.2.2 dX3_isNeverWithout_53
  · have h := h.2 c_25
    refine lv_iconst (v := (1 : Int32)) hx hb dX3_isNeverWithout_48 (by decide) ?_
    refine lv_goto (tgt := 53) hx hb dX3_isNeverWithout_49 (by decide) ?_
    exact W.zret (v := (1 : Int32)) hx hb hr rfl (fun t ht hW => ⟨⟨(1 : Int32), (S_23, u_3), rfl, h, by rw [ht]; exact hP, va_K.moved hW.alike hK, hD⟩, hS.F ht⟩) hS.2.2 dX3_isNeverWithout_53
/-! X3_isNeverWithSecond -/
def wp_X3_isNeverWithSecond_5 (x2 : Int32) (x3 : Int32) (Q : Int32 → (Nat → St) → St → Prop) : Nat → (Nat → St) → St → Int32 → Prop
  | 0, _, _, _ => False
  | n + 1, S0, S1, x4 => (((67 : Int32) < x4) → (Q (0 : Int32) S0 S1)) ∧ ((¬ (67 : Int32) < x4) → (wp_X2_isDancedPair S1 x4 (fun r_2 u_3 => ((r_2 = 0) → (wp_X3_isNeverWithSecond_5 x2 x3 Q n S0 u_3 (x4 + 1))) ∧ ((¬ r_2 = 0) → (wp_X3_isNeverWithout S0 u_3 x2 x3 x4 (fun r_5 u_6 u_7 => ((r_5 = 0) → (wp_X3_isNeverWithSecond_5 x2 x3 Q n u_6 u_7 (x4 + 1))) ∧ ((¬ r_5 = 0) → (Q (1 : Int32) u_6 u_7))))))))
def wp_X3_isNeverWithSecond (S0 : Nat → St) (S1 : St) (x2 : Int32) (x3 : Int32) (Q : Int32 → (Nat → St) → St → Prop) : Prop := ∃ i, wp_X3_isNeverWithSecond_5 x2 x3 Q i S0 S1 (x3 + (1 : Int32))
abbrev rmX3_isNeverWithSecond : Room := { frames := 5, cells := 0, slots := 0, locals := 113 }
set_option maxRecDepth 100000 in
set_option maxHeartbeats 4000000 in
theorem c_X3_isNeverWithSecond (l : Launch) (D : va_G) (k : Nat → ClassId) (a : Nat → Nat) (b : Nat → Nat) (S0 : Nat → St) (S1 : St) (sz : Nat) (x2 : Int32) (x3 : Int32) (Q : Int32 → (Nat → St) → St → Prop) (h : wp_X3_isNeverWithSecond S0 S1 x2 x3 Q) : Met l yX3_isNeverWithSecond wsX3_isNeverWithSecond rmX3_isNeverWithSecond (cPc D k (wHo k a S0 ++ wFl k b S1) [.ref (a 0), .ref (b 0), .int x2, .int x3] sz) (va_Qi (fun (r : Int32) (u : (Nat → St) × St) => Q r u.1 u.2) (cB D k (va_A (wHo k a S0 ++ wFl k b S1) sz) (fun u : (Nat → St) × St => wHo k a u.1 ++ wFl k b u.2)) (va_A (wHo k a S0 ++ wFl k b S1) sz)) 0 0 (va_A (wHo k a S0 ++ wFl k b S1) sz) := by
  refine ct_entry (cc := cX3_isNeverWithSecond) (maxL := 5) (ret := (some .boolean)) (Rn := RX3) (Qc := fun A => (va_Qi (fun (r : Int32) (u : (Nat → St) × St) => Q r u.1 u.2) (cB D k A (fun u : (Nat → St) × St => wHo k a u.1 ++ wFl k b u.2)) A)) (by decide) rfl rfl (Nat.le_of_ble_eq_true rfl) ?_
  intro p e s m below meth c hx hb hr hlocks hml hts hown hnw hK A hA H locs hP hD hS ls hl
  have hl : lv_has ls 5 [(0, .ref (a 0)), (1, .ref (b 0)), (2, .int x2), (3, .int x3)] := hl
  have L_5 : ∀ (n : Nat), ∀ (S0 : Nat → St) (S1 : St) (x4 : Int32), ∀ (H : Heap) (locs : List Loc) (ls : Array Slot), va_P D vwCl (wHo k a S0 ++ wFl k b S1) H → va_D A (wHo k a S0 ++ wFl k b S1) → va_S A s.heap H locs → lv_has ls 5 [(0, .ref (a 0)), (1, .ref (b 0)), (2, .int x2), (3, .int x3), (4, .int x4)] → wp_X3_isNeverWithSecond_5 x2 x3 Q n S0 S1 x4 → W p l e rmX3_isNeverWithSecond s m ([.ref (a 0), .ref (b 0), .int x2, .int x3] : List Value).toArray below meth c H locs 0 0 (MQ below (va_Qi (fun (r : Int32) (u : (Nat → St) × St) => Q r u.1 u.2) (cB D k A (fun u : (Nat → St) × St => wHo k a u.1 ++ wFl k b u.2)) A) ([.ref (a 0), .ref (b 0), .int x2, .int x3] : List Value).toArray s 0 0 A) (F0 m 5 ls []) := by
    intro n
    induction n with
    | zero => intro S0 S1 x4 H locs ls hP hD hS hl h; exact absurd h (by unfold wp_X3_isNeverWithSecond_5; exact id)
    | succ n ih =>
      intro S0 S1 x4 H locs ls hP hD hS hl h
      unfold wp_X3_isNeverWithSecond_5 at h
      refine lv_iload hx hb dX3_isNeverWithSecond_5 (lv_at hl 4 rfl) ?_
      refine lv_bipush (v := (67 : Int32)) hx hb dX3_isNeverWithSecond_7 (by decide) ?_
      refine lv_icmp_gt (tgt := 41) hx hb dX3_isNeverWithSecond_9 (by decide) (fun c_1 => ?_) (fun c_1 => ?_)
      · have h := h.1 c_1
        refine lv_iconst (v := (0 : Int32)) hx hb dX3_isNeverWithSecond_41 (by decide) ?_
        exact W.zret (v := (0 : Int32)) hx hb hr rfl (fun t ht hW => ⟨⟨(0 : Int32), (S0, S1), rfl, h, by rw [ht]; exact hP, va_K.moved hW.alike hK, hD⟩, hS.F ht⟩) hS.2.2 dX3_isNeverWithSecond_42
      · have h := h.2 c_1
        refine lv_aload_n hx hb dX3_isNeverWithSecond_12 rfl (lv_at hl 1 rfl) ?_
        refine lv_iload hx hb dX3_isNeverWithSecond_13 (lv_at hl 4 rfl) ?_
        have hPc := fc8_P hP
        have hDc := fc8_D hD
        have hFc := fr_self hDc hS hA
        refine gv_i (va_runV (As := [.int x4]) (rest := []) ⟨hx, hb, hml, hown, hts⟩ (c_X2_isDancedPair l D k b S1 H.size x4 _ h) (cwV 1 hts gX3_isNeverWithSecond_X2_isDancedPair rfl rfl rfl (by decide +kernel) ⟨Nat.le_of_ble_eq_true rfl, Nat.le_of_ble_eq_true rfl⟩) (gv_preV hK hnw hPc hDc (ci := 2) rfl 0 rfl) rfl rfl hl.1 rfl (lv_room (Nat.le_of_ble_eq_true rfl)) dX3_isNeverWithSecond_15 ⟨Nat.zero_le _, Nat.zero_le _⟩) hS hFc (fun r_2 u_3 H locs h hP1 hD1 hk1 hS => ?_)
        obtain ⟨hP, hD⟩ := fc8_J hP hD hk1 hFc hP1 hD1
        refine lv_if_eq (tgt := 35) hx hb dX3_isNeverWithSecond_18 (by decide) (fun c_4 => ?_) (fun c_4 => ?_)
        · have h := h.1 c_4
          refine lv_iinc (v := (x4 + 1)) (lv' := [(4, .int (x4 + 1)), (0, .ref (a 0)), (1, .ref (b 0)), (2, .int x2), (3, .int x3)]) hx hb dX3_isNeverWithSecond_35 hl (k := 4) rfl rfl (by decide) rfl (fun ls hl => ?_)
          refine lv_goto (tgt := 5) hx hb dX3_isNeverWithSecond_38 (by decide) ?_
          exact ih S0 u_3 (x4 + 1) H locs ls hP hD hS (lv_sub hl [1, 2, 3, 4, 0] rfl) h
        · have h := h.2 c_4
          refine lv_aload_n hx hb dX3_isNeverWithSecond_21 rfl (lv_at hl 0 rfl) ?_
          refine lv_aload_n hx hb dX3_isNeverWithSecond_22 rfl (lv_at hl 1 rfl) ?_
          refine lv_iload_n hx hb dX3_isNeverWithSecond_23 rfl (lv_at hl 2 rfl) ?_
          refine lv_iload_n hx hb dX3_isNeverWithSecond_24 rfl (lv_at hl 3 rfl) ?_
          refine lv_iload hx hb dX3_isNeverWithSecond_25 (lv_at hl 4 rfl) ?_
          have hFc := fr_self hD hS hA
          refine gv_i (va_runV (As := [.ref (b 0), .int x2, .int x3, .int x4]) (rest := []) ⟨hx, hb, hml, hown, hts⟩ (c_X3_isNeverWithout l D k a b S0 u_3 H.size x2 x3 x4 _ h) (cwV 4 hts gX3_isNeverWithSecond_X3_isNeverWithout rfl rfl rfl (by decide +kernel) ⟨Nat.le_of_ble_eq_true rfl, Nat.le_of_ble_eq_true rfl⟩) (gv_preV hK hnw hP hD (ci := 3) rfl 0 rfl) rfl rfl hl.1 rfl (lv_room (Nat.le_of_ble_eq_true rfl)) dX3_isNeverWithSecond_27 ⟨Nat.zero_le _, Nat.zero_le _⟩) hS hFc (fun r_5 w_8 H locs h hP1 hD1 hk1 hS => ?_)
          obtain ⟨u_6, u_7⟩ := w_8
          have hP := hP1
          have hD := hD1.weaken (fun _ _ _ z => hFc _ z)
          refine lv_if_eq (tgt := 35) hx hb dX3_isNeverWithSecond_30 (by decide) (fun c_9 => ?_) (fun c_9 => ?_)
          · have h := h.1 c_9
            refine lv_iinc (v := (x4 + 1)) (lv' := [(4, .int (x4 + 1)), (0, .ref (a 0)), (1, .ref (b 0)), (2, .int x2), (3, .int x3)]) hx hb dX3_isNeverWithSecond_35 hl (k := 4) rfl rfl (by decide) rfl (fun ls hl => ?_)
            refine lv_goto (tgt := 5) hx hb dX3_isNeverWithSecond_38 (by decide) ?_
            exact ih u_6 u_7 (x4 + 1) H locs ls hP hD hS (lv_sub hl [1, 2, 3, 4, 0] rfl) h
          · have h := h.2 c_9
            refine lv_iconst (v := (1 : Int32)) hx hb dX3_isNeverWithSecond_33 (by decide) ?_
            exact W.zret (v := (1 : Int32)) hx hb hr rfl (fun t ht hW => ⟨⟨(1 : Int32), (u_6, u_7), rfl, h, by rw [ht]; exact hP, va_K.moved hW.alike hK, hD⟩, hS.F ht⟩) hS.2.2 dX3_isNeverWithSecond_34
  unfold wp_X3_isNeverWithSecond at h
  refine lv_iload_n hx hb dX3_isNeverWithSecond_0 rfl (lv_at hl 3 rfl) ?_
  refine lv_iconst (v := (1 : Int32)) hx hb dX3_isNeverWithSecond_1 (by decide) ?_
  refine lv_iadd hx hb dX3_isNeverWithSecond_2 ?_
  refine lv_istore (lv' := [(4, .int (x3 + (1 : Int32))), (0, .ref (a 0)), (1, .ref (b 0)), (2, .int x2), (3, .int x3)]) hx hb dX3_isNeverWithSecond_3 hl (by decide) rfl (fun ls hl => ?_)
  obtain ⟨n_10, h⟩ := h
  exact L_5 n_10 S0 S1 (x3 + (1 : Int32)) H locs ls hP hD hS (lv_sub hl [1, 2, 3, 4, 0] rfl) h
/-! X3_fewestWithout -/
def wp_X3_fewestWithout_63 (x2 : Int32) (x3 : Int32) (Q : Int32 → (Nat → St) → St → Prop) : Nat → (Nat → St) → St → Int32 → Int32 → Prop
  | 0, _, _, _, _ => False
  | n + 1, S0, S1, x4, x5 => (((67 : Int32) < x5) → (Q (-9 : Int32) S0 S1)) ∧ ((¬ (67 : Int32) < x5) → (wp_X2_isDancedPair S1 x5 (fun r_9 u_10 => ((r_9 = 0) → (wp_X3_fewestWithout_63 x2 x3 Q n S0 u_10 x4 (x5 + 1))) ∧ ((¬ r_9 = 0) → (wp_X3_isNeverWithSecond S0 u_10 x4 x5 (fun r_12 u_13 u_14 => ((r_12 = 0) → (wp_X3_fewestWithout_63 x2 x3 Q n u_13 u_14 x4 (x5 + 1))) ∧ ((¬ r_12 = 0) → (Q (2 : Int32) u_13 u_14))))))))
def wp_X3_fewestWithout_22 (x2 : Int32) (x3 : Int32) (Q : Int32 → (Nat → St) → St → Prop) : Nat → (Nat → St) → St → Int32 → Int32 → Prop
  | 0, _, _, _, _ => False
  | n + 1, S0, S1, x4, x5 => (((67 : Int32) < x5) → (∃ i, wp_X3_fewestWithout_63 x2 x3 Q i S0 S1 x4 (1 : Int32))) ∧ ((¬ (67 : Int32) < x5) → (wp_X2_isDancedPair S1 x5 (fun r_18 u_19 => ((r_18 = 0) → (wp_X3_fewestWithout_22 x2 x3 Q n S0 u_19 x4 (x5 + 1))) ∧ ((¬ r_18 = 0) → (wp_X3_isNeverWithout S0 u_19 x4 x5 x5 (fun r_21 u_22 u_23 => ((r_21 = 0) → (wp_X3_fewestWithout_22 x2 x3 Q n u_22 u_23 x4 (x5 + 1))) ∧ ((¬ r_21 = 0) → (Q (1 : Int32) u_22 u_23))))))))
def wp_X3_fewestWithout (S0 : Nat → St) (S1 : St) (x2 : Int32) (x3 : Int32) (Q : Int32 → (Nat → St) → St → Prop) : Prop := wp_X3_isEver S0 S1 x2 x3 (fun r_1 u_2 u_3 => ((¬ r_1 = 0) → (wp_X6_pairOf x2 x3 (fun r_6 => ∃ i, wp_X3_fewestWithout_22 x2 x3 Q i u_2 u_3 r_6 (1 : Int32)))) ∧ ((r_1 = 0) → (Q (0 : Int32) u_2 u_3)))
abbrev rmX3_fewestWithout : Room := { frames := 6, cells := 0, slots := 0, locals := 137 }
set_option maxRecDepth 100000 in
set_option maxHeartbeats 4000000 in
theorem c_X3_fewestWithout (l : Launch) (D : va_G) (k : Nat → ClassId) (a : Nat → Nat) (b : Nat → Nat) (S0 : Nat → St) (S1 : St) (sz : Nat) (x2 : Int32) (x3 : Int32) (Q : Int32 → (Nat → St) → St → Prop) (h : wp_X3_fewestWithout S0 S1 x2 x3 Q) : Met l yX3_fewestWithout wsX3_fewestWithout rmX3_fewestWithout (cPc D k (wHo k a S0 ++ wFl k b S1) [.ref (a 0), .ref (b 0), .int x2, .int x3] sz) (va_Qi (fun (r : Int32) (u : (Nat → St) × St) => Q r u.1 u.2) (cB D k (va_A (wHo k a S0 ++ wFl k b S1) sz) (fun u : (Nat → St) × St => wHo k a u.1 ++ wFl k b u.2)) (va_A (wHo k a S0 ++ wFl k b S1) sz)) 0 0 (va_A (wHo k a S0 ++ wFl k b S1) sz) := by
  refine ct_entry (cc := cX3_fewestWithout) (maxL := 6) (ret := (some .int)) (Rn := RX3) (Qc := fun A => (va_Qi (fun (r : Int32) (u : (Nat → St) × St) => Q r u.1 u.2) (cB D k A (fun u : (Nat → St) × St => wHo k a u.1 ++ wFl k b u.2)) A)) (by decide) rfl rfl (Nat.le_of_ble_eq_true rfl) ?_
  intro p e s m below meth c hx hb hr hlocks hml hts hown hnw hK A hA H locs hP hD hS ls hl
  have hl : lv_has ls 6 [(0, .ref (a 0)), (1, .ref (b 0)), (2, .int x2), (3, .int x3)] := hl
  have ni_X6 := hts (.initialized RX6) (by decide +kernel)
  have ns_yX6_pairOf := hts (.static yX6_pairOf) (by decide +kernel)
  have L_63 : ∀ (n : Nat), ∀ (S0 : Nat → St) (S1 : St) (x4 : Int32) (x5 : Int32), ∀ (H : Heap) (locs : List Loc) (ls : Array Slot), va_P D vwCl (wHo k a S0 ++ wFl k b S1) H → va_D A (wHo k a S0 ++ wFl k b S1) → va_S A s.heap H locs → lv_has ls 6 [(0, .ref (a 0)), (1, .ref (b 0)), (4, .int x4), (5, .int x5)] → wp_X3_fewestWithout_63 x2 x3 Q n S0 S1 x4 x5 → W p l e rmX3_fewestWithout s m ([.ref (a 0), .ref (b 0), .int x2, .int x3] : List Value).toArray below meth c H locs 0 0 (MQ below (va_Qi (fun (r : Int32) (u : (Nat → St) × St) => Q r u.1 u.2) (cB D k A (fun u : (Nat → St) × St => wHo k a u.1 ++ wFl k b u.2)) A) ([.ref (a 0), .ref (b 0), .int x2, .int x3] : List Value).toArray s 0 0 A) (F0 m 63 ls []) := by
    intro n
    induction n with
    | zero => intro S0 S1 x4 x5 H locs ls hP hD hS hl h; exact absurd h (by unfold wp_X3_fewestWithout_63; exact id)
    | succ n ih =>
      intro S0 S1 x4 x5 H locs ls hP hD hS hl h
      unfold wp_X3_fewestWithout_63 at h
      refine lv_iload hx hb dX3_fewestWithout_63 (lv_at hl 3 rfl) ?_
      refine lv_bipush (v := (67 : Int32)) hx hb dX3_fewestWithout_65 (by decide) ?_
      refine lv_icmp_gt (tgt := 99) hx hb dX3_fewestWithout_67 (by decide) (fun c_8 => ?_) (fun c_8 => ?_)
      · have h := h.1 c_8
        refine lv_bipush (v := (-9 : Int32)) hx hb dX3_fewestWithout_99 (by decide) ?_
        exact W.iret (v := (-9 : Int32)) hx hb hr (fun t ht hW => ⟨⟨(-9 : Int32), (S0, S1), rfl, h, by rw [ht]; exact hP, va_K.moved hW.alike hK, hD⟩, hS.F ht⟩) hS.2.2 dX3_fewestWithout_101
      · have h := h.2 c_8
        refine lv_aload_n hx hb dX3_fewestWithout_70 rfl (lv_at hl 1 rfl) ?_
        refine lv_iload hx hb dX3_fewestWithout_71 (lv_at hl 3 rfl) ?_
        have hPc := fc8_P hP
        have hDc := fc8_D hD
        have hFc := fr_self hDc hS hA
        refine gv_i (va_runV (As := [.int x5]) (rest := []) ⟨hx, hb, hml, hown, hts⟩ (c_X2_isDancedPair l D k b S1 H.size x5 _ h) (cwV 1 hts gX3_fewestWithout_X2_isDancedPair rfl rfl rfl (by decide +kernel) ⟨Nat.le_of_ble_eq_true rfl, Nat.le_of_ble_eq_true rfl⟩) (gv_preV hK hnw hPc hDc (ci := 2) rfl 0 rfl) rfl rfl hl.1 rfl (lv_room (Nat.le_of_ble_eq_true rfl)) dX3_fewestWithout_73 ⟨Nat.zero_le _, Nat.zero_le _⟩) hS hFc (fun r_9 u_10 H locs h hP1 hD1 hk1 hS => ?_)
        obtain ⟨hP, hD⟩ := fc8_J hP hD hk1 hFc hP1 hD1
        refine lv_if_eq (tgt := 93) hx hb dX3_fewestWithout_76 (by decide) (fun c_11 => ?_) (fun c_11 => ?_)
        · have h := h.1 c_11
          refine lv_iinc (v := (x5 + 1)) (lv' := [(5, .int (x5 + 1)), (0, .ref (a 0)), (1, .ref (b 0)), (4, .int x4)]) hx hb dX3_fewestWithout_93 hl (k := 3) rfl rfl (by decide) rfl (fun ls hl => ?_)
          refine lv_goto (tgt := 63) hx hb dX3_fewestWithout_96 (by decide) ?_
          exact ih S0 u_10 x4 (x5 + 1) H locs ls hP hD hS (lv_sub hl [1, 2, 3, 0] rfl) h
        · have h := h.2 c_11
          refine lv_aload_n hx hb dX3_fewestWithout_79 rfl (lv_at hl 0 rfl) ?_
          refine lv_aload_n hx hb dX3_fewestWithout_80 rfl (lv_at hl 1 rfl) ?_
          refine lv_iload hx hb dX3_fewestWithout_81 (lv_at hl 2 rfl) ?_
          refine lv_iload hx hb dX3_fewestWithout_83 (lv_at hl 3 rfl) ?_
          have hFc := fr_self hD hS hA
          refine gv_i (va_runV (As := [.ref (b 0), .int x4, .int x5]) (rest := []) ⟨hx, hb, hml, hown, hts⟩ (c_X3_isNeverWithSecond l D k a b S0 u_10 H.size x4 x5 _ h) (cwV 3 hts gX3_fewestWithout_X3_isNeverWithSecond rfl rfl rfl (by decide +kernel) ⟨Nat.le_of_ble_eq_true rfl, Nat.le_of_ble_eq_true rfl⟩) (gv_preV hK hnw hP hD (ci := 3) rfl 0 rfl) rfl rfl hl.1 rfl (lv_room (Nat.le_of_ble_eq_true rfl)) dX3_fewestWithout_85 ⟨Nat.zero_le _, Nat.zero_le _⟩) hS hFc (fun r_12 w_15 H locs h hP1 hD1 hk1 hS => ?_)
          obtain ⟨u_13, u_14⟩ := w_15
          have hP := hP1
          have hD := hD1.weaken (fun _ _ _ z => hFc _ z)
          refine lv_if_eq (tgt := 93) hx hb dX3_fewestWithout_88 (by decide) (fun c_16 => ?_) (fun c_16 => ?_)
          · have h := h.1 c_16
            refine lv_iinc (v := (x5 + 1)) (lv' := [(5, .int (x5 + 1)), (0, .ref (a 0)), (1, .ref (b 0)), (4, .int x4)]) hx hb dX3_fewestWithout_93 hl (k := 3) rfl rfl (by decide) rfl (fun ls hl => ?_)
            refine lv_goto (tgt := 63) hx hb dX3_fewestWithout_96 (by decide) ?_
            exact ih u_13 u_14 x4 (x5 + 1) H locs ls hP hD hS (lv_sub hl [1, 2, 3, 0] rfl) h
          · have h := h.2 c_16
            refine lv_iconst (v := (2 : Int32)) hx hb dX3_fewestWithout_91 (by decide) ?_
            exact W.iret (v := (2 : Int32)) hx hb hr (fun t ht hW => ⟨⟨(2 : Int32), (u_13, u_14), rfl, h, by rw [ht]; exact hP, va_K.moved hW.alike hK, hD⟩, hS.F ht⟩) hS.2.2 dX3_fewestWithout_92
  have L_22 : ∀ (n : Nat), ∀ (S0 : Nat → St) (S1 : St) (x4 : Int32) (x5 : Int32), ∀ (H : Heap) (locs : List Loc) (ls : Array Slot), va_P D vwCl (wHo k a S0 ++ wFl k b S1) H → va_D A (wHo k a S0 ++ wFl k b S1) → va_S A s.heap H locs → lv_has ls 6 [(0, .ref (a 0)), (1, .ref (b 0)), (4, .int x4), (5, .int x5)] → wp_X3_fewestWithout_22 x2 x3 Q n S0 S1 x4 x5 → W p l e rmX3_fewestWithout s m ([.ref (a 0), .ref (b 0), .int x2, .int x3] : List Value).toArray below meth c H locs 0 0 (MQ below (va_Qi (fun (r : Int32) (u : (Nat → St) × St) => Q r u.1 u.2) (cB D k A (fun u : (Nat → St) × St => wHo k a u.1 ++ wFl k b u.2)) A) ([.ref (a 0), .ref (b 0), .int x2, .int x3] : List Value).toArray s 0 0 A) (F0 m 22 ls []) := by
    intro n
    induction n with
    | zero => intro S0 S1 x4 x5 H locs ls hP hD hS hl h; exact absurd h (by unfold wp_X3_fewestWithout_22; exact id)
    | succ n ih =>
      intro S0 S1 x4 x5 H locs ls hP hD hS hl h
      unfold wp_X3_fewestWithout_22 at h
      refine lv_iload hx hb dX3_fewestWithout_22 (lv_at hl 3 rfl) ?_
      refine lv_bipush (v := (67 : Int32)) hx hb dX3_fewestWithout_24 (by decide) ?_
      refine lv_icmp_gt (tgt := 60) hx hb dX3_fewestWithout_26 (by decide) (fun c_7 => ?_) (fun c_7 => ?_)
      · have h := h.1 c_7
        refine lv_iconst (v := (1 : Int32)) hx hb dX3_fewestWithout_60 (by decide) ?_
        refine lv_istore (lv' := [(5, .int (1 : Int32)), (0, .ref (a 0)), (1, .ref (b 0)), (4, .int x4)]) hx hb dX3_fewestWithout_61 hl (by decide) rfl (fun ls hl => ?_)
        obtain ⟨n_17, h⟩ := h
        exact L_63 n_17 S0 S1 x4 (1 : Int32) H locs ls hP hD hS (lv_sub hl [1, 2, 3, 0] rfl) h
      · have h := h.2 c_7
        refine lv_aload_n hx hb dX3_fewestWithout_29 rfl (lv_at hl 1 rfl) ?_
        refine lv_iload hx hb dX3_fewestWithout_30 (lv_at hl 3 rfl) ?_
        have hPc := fc8_P hP
        have hDc := fc8_D hD
        have hFc := fr_self hDc hS hA
        refine gv_i (va_runV (As := [.int x5]) (rest := []) ⟨hx, hb, hml, hown, hts⟩ (c_X2_isDancedPair l D k b S1 H.size x5 _ h) (cwV 1 hts gX3_fewestWithout_X2_isDancedPair rfl rfl rfl (by decide +kernel) ⟨Nat.le_of_ble_eq_true rfl, Nat.le_of_ble_eq_true rfl⟩) (gv_preV hK hnw hPc hDc (ci := 2) rfl 0 rfl) rfl rfl hl.1 rfl (lv_room (Nat.le_of_ble_eq_true rfl)) dX3_fewestWithout_32 ⟨Nat.zero_le _, Nat.zero_le _⟩) hS hFc (fun r_18 u_19 H locs h hP1 hD1 hk1 hS => ?_)
        obtain ⟨hP, hD⟩ := fc8_J hP hD hk1 hFc hP1 hD1
        refine lv_if_eq (tgt := 54) hx hb dX3_fewestWithout_35 (by decide) (fun c_20 => ?_) (fun c_20 => ?_)
        · have h := h.1 c_20
          refine lv_iinc (v := (x5 + 1)) (lv' := [(5, .int (x5 + 1)), (0, .ref (a 0)), (1, .ref (b 0)), (4, .int x4)]) hx hb dX3_fewestWithout_54 hl (k := 3) rfl rfl (by decide) rfl (fun ls hl => ?_)
          refine lv_goto (tgt := 22) hx hb dX3_fewestWithout_57 (by decide) ?_
          exact ih S0 u_19 x4 (x5 + 1) H locs ls hP hD hS (lv_sub hl [1, 2, 3, 0] rfl) h
        · have h := h.2 c_20
          refine lv_aload_n hx hb dX3_fewestWithout_38 rfl (lv_at hl 0 rfl) ?_
          refine lv_aload_n hx hb dX3_fewestWithout_39 rfl (lv_at hl 1 rfl) ?_
          refine lv_iload hx hb dX3_fewestWithout_40 (lv_at hl 2 rfl) ?_
          refine lv_iload hx hb dX3_fewestWithout_42 (lv_at hl 3 rfl) ?_
          refine lv_iload hx hb dX3_fewestWithout_44 (lv_at hl 3 rfl) ?_
          have hFc := fr_self hD hS hA
          refine gv_i (va_runV (As := [.ref (b 0), .int x4, .int x5, .int x5]) (rest := []) ⟨hx, hb, hml, hown, hts⟩ (c_X3_isNeverWithout l D k a b S0 u_19 H.size x4 x5 x5 _ h) (cwV 4 hts gX3_fewestWithout_X3_isNeverWithout rfl rfl rfl (by decide +kernel) ⟨Nat.le_of_ble_eq_true rfl, Nat.le_of_ble_eq_true rfl⟩) (gv_preV hK hnw hP hD (ci := 3) rfl 0 rfl) rfl rfl hl.1 rfl (lv_room (Nat.le_of_ble_eq_true rfl)) dX3_fewestWithout_46 ⟨Nat.zero_le _, Nat.zero_le _⟩) hS hFc (fun r_21 w_24 H locs h hP1 hD1 hk1 hS => ?_)
          obtain ⟨u_22, u_23⟩ := w_24
          have hP := hP1
          have hD := hD1.weaken (fun _ _ _ z => hFc _ z)
          refine lv_if_eq (tgt := 54) hx hb dX3_fewestWithout_49 (by decide) (fun c_25 => ?_) (fun c_25 => ?_)
          · have h := h.1 c_25
            refine lv_iinc (v := (x5 + 1)) (lv' := [(5, .int (x5 + 1)), (0, .ref (a 0)), (1, .ref (b 0)), (4, .int x4)]) hx hb dX3_fewestWithout_54 hl (k := 3) rfl rfl (by decide) rfl (fun ls hl => ?_)
            refine lv_goto (tgt := 22) hx hb dX3_fewestWithout_57 (by decide) ?_
            exact ih u_22 u_23 x4 (x5 + 1) H locs ls hP hD hS (lv_sub hl [1, 2, 3, 0] rfl) h
          · have h := h.2 c_25
            refine lv_iconst (v := (1 : Int32)) hx hb dX3_fewestWithout_52 (by decide) ?_
            exact W.iret (v := (1 : Int32)) hx hb hr (fun t ht hW => ⟨⟨(1 : Int32), (u_22, u_23), rfl, h, by rw [ht]; exact hP, va_K.moved hW.alike hK, hD⟩, hS.F ht⟩) hS.2.2 dX3_fewestWithout_53
  unfold wp_X3_fewestWithout at h
  refine lv_aload_n hx hb dX3_fewestWithout_0 rfl (lv_at hl 0 rfl) ?_
  refine lv_aload_n hx hb dX3_fewestWithout_1 rfl (lv_at hl 1 rfl) ?_
  refine lv_iload_n hx hb dX3_fewestWithout_2 rfl (lv_at hl 2 rfl) ?_
  refine lv_iload_n hx hb dX3_fewestWithout_3 rfl (lv_at hl 3 rfl) ?_
  have hFc := fr_self hD hS hA
  refine gv_i (va_runV (As := [.ref (b 0), .int x2, .int x3]) (rest := []) ⟨hx, hb, hml, hown, hts⟩ (c_X3_isEver l D k a b S0 S1 H.size x2 x3 _ h) (cwV 3 hts gX3_fewestWithout_X3_isEver rfl rfl rfl (by decide +kernel) ⟨Nat.le_of_ble_eq_true rfl, Nat.le_of_ble_eq_true rfl⟩) (gv_preV hK hnw hP hD (ci := 3) rfl 0 rfl) rfl rfl hl.1 rfl (lv_room (Nat.le_of_ble_eq_true rfl)) dX3_fewestWithout_4 ⟨Nat.zero_le _, Nat.zero_le _⟩) hS hFc (fun r_1 w_4 H locs h hP1 hD1 hk1 hS => ?_)
  obtain ⟨u_2, u_3⟩ := w_4
  have hP := hP1
  have hD := hD1.weaken (fun _ _ _ z => hFc _ z)
  refine lv_if_ne (tgt := 12) hx hb dX3_fewestWithout_7 (by decide) (fun c_5 => ?_) (fun c_5 => ?_)
  · have h := h.1 c_5
    refine lv_iload_n hx hb dX3_fewestWithout_12 rfl (lv_at hl 2 rfl) ?_
    refine lv_iload_n hx hb dX3_fewestWithout_13 rfl (lv_at hl 3 rfl) ?_
    refine gs_i (va_runSN (As := [.int x2, .int x3]) (rest := []) ⟨hx, hb, hml, hown, hts⟩ (c_X6_pairOf l x2 x3 _ h) ⟨va_cnB 2 hts gX3_fewestWithout_X6_pairOf_n48 rfl rfl rfl (hnw.1 _ (List.mem_of_getElem? (i := 9) rfl)) ni_X6 (by decide +kernel) ⟨Nat.le_of_ble_eq_true rfl, Nat.le_of_ble_eq_true rfl⟩, ns_yX6_pairOf, trivial⟩ preEq rfl rfl hl.1 rfl (lv_room (Nat.le_of_ble_eq_true rfl)) dX3_fewestWithout_14 ⟨Nat.zero_le _, Nat.zero_le _⟩) (fun r_6 h => ?_)
    refine lv_istore (lv' := [(4, .int r_6), (0, .ref (a 0)), (1, .ref (b 0)), (2, .int x2), (3, .int x3)]) hx hb dX3_fewestWithout_17 hl (by decide) rfl (fun ls hl => ?_)
    refine lv_iconst (v := (1 : Int32)) hx hb dX3_fewestWithout_19 (by decide) ?_
    refine lv_istore (lv' := [(5, .int (1 : Int32)), (4, .int r_6), (0, .ref (a 0)), (1, .ref (b 0)), (2, .int x2), (3, .int x3)]) hx hb dX3_fewestWithout_20 hl (by decide) rfl (fun ls hl => ?_)
    obtain ⟨n_26, h⟩ := h
    exact L_22 n_26 u_2 u_3 r_6 (1 : Int32) H locs ls hP hD hS (lv_sub hl [2, 3, 1, 0] rfl) h
  · have h := h.2 c_5
    refine lv_iconst (v := (0 : Int32)) hx hb dX3_fewestWithout_10 (by decide) ?_
    exact W.iret (v := (0 : Int32)) hx hb hr (fun t ht hW => ⟨⟨(0 : Int32), (u_2, u_3), rfl, h, by rw [ht]; exact hP, va_K.moved hW.alike hK, hD⟩, hS.F ht⟩) hS.2.2 dX3_fewestWithout_11
/-! X3_lostWithoutBringer -/
def wp_X3_lostWithoutBringer (S0 : Nat → St) (S1 : St) (x2 : Int32) (Q : Int32 → (Nat → St) → St → Prop) : Prop := wp_X3_settled S0 S1 (fun u_2 u_3 => wp_X0_pairs (u_2 0) (fun r_5 u_6 => ∀ S_7, S_7 = (va_up u_2 0 u_6) → (wp_X0_begin (S_7 0) u_3 (fun u_10 u_11 => ∀ S_13, S_13 = (va_up S_7 0 u_10) → (∀ S_15, S_15 = (va_up S_13 0 (sI (S_13 0) 2 (((S_13 0).1 2) &&& (((1 : Int32) <<< (x2 &&& 31)) ^^^ (-1 : Int32))))) → (wp_X0_settle (S_15 0) (fun u_18 => ∀ S_19, S_19 = (va_up S_15 0 u_18) → (wp_X0_pairs (S_19 0) (fun r_21 u_22 => ∀ S_23, S_23 = (va_up S_19 0 u_22) → (Q (r_5 - r_21) S_23 u_11))))))))))
abbrev rmX3_lostWithoutBringer : Room := { frames := 5, cells := 0, slots := 0, locals := 110 }
set_option maxRecDepth 100000 in
set_option maxHeartbeats 4000000 in
theorem c_X3_lostWithoutBringer (l : Launch) (D : va_G) (k : Nat → ClassId) (a : Nat → Nat) (b : Nat → Nat) (S0 : Nat → St) (S1 : St) (sz : Nat) (x2 : Int32) (Q : Int32 → (Nat → St) → St → Prop) (h : wp_X3_lostWithoutBringer S0 S1 x2 Q) : Met l yX3_lostWithoutBringer wsX3_lostWithoutBringer rmX3_lostWithoutBringer (cPc D k (wHo k a S0 ++ wFl k b S1) [.ref (a 0), .ref (b 0), .int x2] sz) (va_Qi (fun (r : Int32) (u : (Nat → St) × St) => Q r u.1 u.2) (cB D k (va_A (wHo k a S0 ++ wFl k b S1) sz) (fun u : (Nat → St) × St => wHo k a u.1 ++ wFl k b u.2)) (va_A (wHo k a S0 ++ wFl k b S1) sz)) 0 0 (va_A (wHo k a S0 ++ wFl k b S1) sz) := by
  refine ct_entry (cc := cX3_lostWithoutBringer) (maxL := 5) (ret := (some .int)) (Rn := RX3) (Qc := fun A => (va_Qi (fun (r : Int32) (u : (Nat → St) × St) => Q r u.1 u.2) (cB D k A (fun u : (Nat → St) × St => wHo k a u.1 ++ wFl k b u.2)) A)) (by decide) rfl rfl (Nat.le_of_ble_eq_true rfl) ?_
  intro p e s m below meth c hx hb hr hlocks hml hts hown hnw hK A hA H locs hP hD hS ls hl
  have hl : lv_has ls 5 [(0, .ref (a 0)), (1, .ref (b 0)), (2, .int x2)] := hl
  have ln_104 := hts (.fieldLink RX3 104 "WithTheSameOne$Ending" "helpers" "I") (by decide +kernel)
  have ln_11 := hts (.fieldLink RX3 11 "WithTheSameOne$Hopes" "ends" "[LWithTheSameOne$Ending;") (by decide +kernel)
  have in_Ho : ∀ w ∈ wsX30, w ∈ wsX3_lostWithoutBringer := fun _ h => List.mem_cons_of_mem _ (List.mem_append_left _ (List.mem_append_left _ (List.mem_append_right _ h)))
  have in_En : ∀ w ∈ wsX00, w ∈ wsX3_lostWithoutBringer := fun _ h => List.mem_cons_of_mem _ (List.mem_append_left _ (List.mem_append_right _ h))
  unfold wp_X3_lostWithoutBringer at h
  refine lv_aload_n hx hb dX3_lostWithoutBringer_0 rfl (lv_at hl 0 rfl) ?_
  refine lv_aload_n hx hb dX3_lostWithoutBringer_1 rfl (lv_at hl 1 rfl) ?_
  have hFc := fr_self hD hS hA
  refine gv_r (va_runV (As := [.ref (b 0)]) (rest := []) ⟨hx, hb, hml, hown, hts⟩ (c_X3_settled l D k a b S0 S1 H.size _ h) (cwV 1 hts gX3_lostWithoutBringer_X3_settled rfl rfl rfl (by decide +kernel) ⟨Nat.le_of_ble_eq_true rfl, Nat.le_of_ble_eq_true rfl⟩) (gv_preV hK hnw hP hD (ci := 3) rfl 0 rfl) rfl rfl hl.1 rfl (lv_room (Nat.le_of_ble_eq_true rfl)) dX3_lostWithoutBringer_2 ⟨Nat.zero_le _, Nat.zero_le _⟩) hS hFc (fun w_4 H locs h hP1 hD1 hk1 hS => ?_)
  obtain ⟨u_2, u_3⟩ := w_4
  have hP := hP1
  have hD := hD1.weaken (fun _ _ _ z => hFc _ z)
  refine W.eq (g2 := F0 m 5 ls [.ref (a 2)]) rfl ?_
  have hPc := fc7_P hP
  have hDc := fc7_D hD
  have hFc := fr_self hDc hS hA
  refine gv_i (va_runV (As := []) (rest := []) ⟨hx, hb, hml, hown, hts⟩ (c_X0_pairs l D k (sh a 2) (u_2 0) H.size _ h) (cwV 0 hts gX3_lostWithoutBringer_X0_pairs rfl rfl rfl (by decide +kernel) ⟨Nat.le_of_ble_eq_true rfl, Nat.le_of_ble_eq_true rfl⟩) (gv_preV hK hnw hPc hDc (ci := 0) rfl 0 rfl) rfl rfl hl.1 rfl (lv_room (Nat.le_of_ble_eq_true rfl)) dX3_lostWithoutBringer_5 ⟨Nat.zero_le _, Nat.zero_le _⟩) hS hFc (fun r_5 u_6 H locs h hP1 hD1 hk1 hS => ?_)
  obtain ⟨hP, hD⟩ := fc7_J hP hD hk1 hFc hP1 hD1
  obtain ⟨S_7, e_8⟩ : ∃ z : Nat → St, z = (va_up u_2 0 u_6) := ⟨_, rfl⟩
  have h := h S_7 e_8
  have hP : va_P D vwCl (wHo k a S_7 ++ wFl k b u_3) H := by rw [e_8]; exact hP
  have hD : va_D A (wHo k a S_7 ++ wFl k b u_3) := by rw [e_8]; exact hD
  refine lv_istore_n (lv' := [(3, .int r_5), (0, .ref (a 0)), (1, .ref (b 0)), (2, .int x2)]) hx hb dX3_lostWithoutBringer_8 rfl hl (by decide) rfl (fun ls hl => ?_)
  refine lv_aload_n hx hb dX3_lostWithoutBringer_9 rfl (lv_at hl 1 rfl) ?_
  refine va_get (D := D) (ci := 3) (v := .ref (a 1)) (C := RX3) (T := TX3) (N := 1) hx hb hts in_Ho hown hK hP 0 rfl rfl 0 (by decide) ln_11 (fun _ h9 => h9) rfl dX3_lostWithoutBringer_10 ?_
  refine lv_iconst (v := (0 : Int32)) hx hb dX3_lostWithoutBringer_13 (by decide) ?_
  refine va_aldq (C := RX0) hx hb hK hP 1 2 rfl rfl (vp0 (by decide)) dX3_lostWithoutBringer_14 ?_
  refine W.eq (g2 := F0 m 15 ls [.ref (a 2)]) rfl ?_
  refine lv_astore (lv' := [(4, .ref (a 2)), (3, .int r_5), (0, .ref (a 0)), (1, .ref (b 0)), (2, .int x2)]) hx hb dX3_lostWithoutBringer_15 hl (by decide) rfl (fun ls hl => ?_)
  refine lv_aload hx hb dX3_lostWithoutBringer_17 (lv_at hl 0 rfl) ?_
  refine lv_aload_n hx hb dX3_lostWithoutBringer_19 rfl (lv_at hl 3 rfl) ?_
  have hPc := fc6_P hP
  have hDc := fc6_D hD
  have hFc := fr_self hDc hS hA
  refine gv_v (va_runV (As := [.ref (b 0)]) (rest := []) ⟨hx, hb, hml, hown, hts⟩ (c_X0_begin l D k (sh a 2) b (S_7 0) u_3 H.size _ h) (cwV 1 hts gX3_lostWithoutBringer_X0_begin rfl rfl rfl (by decide +kernel) ⟨Nat.le_of_ble_eq_true rfl, Nat.le_of_ble_eq_true rfl⟩) (gv_preV hK hnw hPc hDc (ci := 0) rfl 0 rfl) rfl rfl hl.1 rfl (lv_room (Nat.le_of_ble_eq_true rfl)) dX3_lostWithoutBringer_20 ⟨Nat.zero_le _, Nat.zero_le _⟩) hS hFc (fun w_12 H locs h hP1 hD1 hk1 hS => ?_)
  obtain ⟨u_10, u_11⟩ := w_12
  obtain ⟨hP, hD⟩ := fc6_J hP hD hk1 hFc hP1 hD1
  obtain ⟨S_13, e_14⟩ : ∃ z : Nat → St, z = (va_up S_7 0 u_10) := ⟨_, rfl⟩
  have h := h S_13 e_14
  have hP : va_P D vwCl (wHo k a S_13 ++ wFl k b u_11) H := by rw [e_14]; exact hP
  have hD : va_D A (wHo k a S_13 ++ wFl k b u_11) := by rw [e_14]; exact hD
  refine lv_aload hx hb dX3_lostWithoutBringer_23 (lv_at hl 0 rfl) ?_
  refine lv_dup hx hb dX3_lostWithoutBringer_25 rfl ?_
  refine va_get (D := D) (ci := 0) (v := .int ((S_13 0).1 2)) (C := RX0) (T := TX0) (N := 7) hx hb hts in_En hown hK hP 2 rfl rfl 2 (by decide) ln_104 (fun _ h9 => h9) rfl dX3_lostWithoutBringer_26 ?_
  refine lv_iconst (v := (1 : Int32)) hx hb dX3_lostWithoutBringer_29 (by decide) ?_
  refine lv_iload_n hx hb dX3_lostWithoutBringer_30 rfl (lv_at hl 4 rfl) ?_
  refine lv_ishl hx hb dX3_lostWithoutBringer_31 ?_
  refine lv_iconst (v := (-1 : Int32)) hx hb dX3_lostWithoutBringer_32 (by decide) ?_
  refine lv_ixor hx hb dX3_lostWithoutBringer_33 ?_
  refine lv_iand hx hb dX3_lostWithoutBringer_34 ?_
  refine va_put (D := D) (ci := 0) (v := .int (((S_13 0).1 2) &&& (((1 : Int32) <<< (x2 &&& 31)) ^^^ (-1 : Int32)))) (ty := .int) (C := RX0) (T := TX0) (N := 7) hx hb hts in_En tyX0 tyX0_ok nmX0 hown hK hP hD hS 2 rfl rfl 2 (by decide) ln_104 (fun _ h9 => h9) rfl (by decide +kernel) rfl rfl (Nat.le_of_ble_eq_true rfl) dX3_lostWithoutBringer_35 (fun H locs hP hD hS => ?_)
  obtain ⟨S_15, e_16⟩ : ∃ z : Nat → St, z = (va_up S_13 0 (sI (S_13 0) 2 (((S_13 0).1 2) &&& (((1 : Int32) <<< (x2 &&& 31)) ^^^ (-1 : Int32))))) := ⟨_, rfl⟩
  have h := h S_15 e_16
  have hP : va_P D vwCl (wHo k a S_15 ++ wFl k b u_11) H := by rw [e_16]; exact hP
  have hD : va_D A (wHo k a S_15 ++ wFl k b u_11) := by rw [e_16]; exact hD
  refine lv_aload hx hb dX3_lostWithoutBringer_38 (lv_at hl 0 rfl) ?_
  have hPc := fc7_P hP
  have hDc := fc7_D hD
  have hFc := fr_self hDc hS hA
  refine gv_v (va_runV (As := []) (rest := []) ⟨hx, hb, hml, hown, hts⟩ (c_X0_settle l D k (sh a 2) (S_15 0) H.size _ h) (cwV 0 hts gX3_lostWithoutBringer_X0_settle rfl rfl rfl (by decide +kernel) ⟨Nat.le_of_ble_eq_true rfl, Nat.le_of_ble_eq_true rfl⟩) (gv_preV hK hnw hPc hDc (ci := 0) rfl 0 rfl) rfl rfl hl.1 rfl (lv_room (Nat.le_of_ble_eq_true rfl)) dX3_lostWithoutBringer_40 ⟨Nat.zero_le _, Nat.zero_le _⟩) hS hFc (fun u_18 H locs h hP1 hD1 hk1 hS => ?_)
  obtain ⟨hP, hD⟩ := fc7_J hP hD hk1 hFc hP1 hD1
  obtain ⟨S_19, e_20⟩ : ∃ z : Nat → St, z = (va_up S_15 0 u_18) := ⟨_, rfl⟩
  have h := h S_19 e_20
  have hP : va_P D vwCl (wHo k a S_19 ++ wFl k b u_11) H := by rw [e_20]; exact hP
  have hD : va_D A (wHo k a S_19 ++ wFl k b u_11) := by rw [e_20]; exact hD
  refine lv_iload_n hx hb dX3_lostWithoutBringer_43 rfl (lv_at hl 1 rfl) ?_
  refine lv_aload hx hb dX3_lostWithoutBringer_44 (lv_at hl 0 rfl) ?_
  have hPc := fc7_P hP
  have hDc := fc7_D hD
  have hFc := fr_self hDc hS hA
  refine gv_i (va_runV (As := []) (rest := [.int r_5]) ⟨hx, hb, hml, hown, hts⟩ (c_X0_pairs l D k (sh a 2) (S_19 0) H.size _ h) (cwV 0 hts gX3_lostWithoutBringer_X0_pairs rfl rfl rfl (by decide +kernel) ⟨Nat.le_of_ble_eq_true rfl, Nat.le_of_ble_eq_true rfl⟩) (gv_preV hK hnw hPc hDc (ci := 0) rfl 0 rfl) rfl rfl hl.1 rfl (lv_room (Nat.le_of_ble_eq_true rfl)) dX3_lostWithoutBringer_46 ⟨Nat.zero_le _, Nat.zero_le _⟩) hS hFc (fun r_21 u_22 H locs h hP1 hD1 hk1 hS => ?_)
  obtain ⟨hP, hD⟩ := fc7_J hP hD hk1 hFc hP1 hD1
  obtain ⟨S_23, e_24⟩ : ∃ z : Nat → St, z = (va_up S_19 0 u_22) := ⟨_, rfl⟩
  have h := h S_23 e_24
  have hP : va_P D vwCl (wHo k a S_23 ++ wFl k b u_11) H := by rw [e_24]; exact hP
  have hD : va_D A (wHo k a S_23 ++ wFl k b u_11) := by rw [e_24]; exact hD
  refine lv_isub hx hb dX3_lostWithoutBringer_49 ?_
  exact W.iret (v := (r_5 - r_21)) hx hb hr (fun t ht hW => ⟨⟨(r_5 - r_21), (S_23, u_11), rfl, h, by rw [ht]; exact hP, va_K.moved hW.alike hK, hD⟩, hS.F ht⟩) hS.2.2 dX3_lostWithoutBringer_50
/-! X4_append -/
def wp_X4_append (S0 : St × St) (x1 : Int32) (Q : Int32 → (St × St) → Prop) : Prop := (((64 : Int32) ≤ (S0.1.1 0)) → (Q (S0.1.1 0) S0)) ∧ ((¬ (64 : Int32) ≤ (S0.1.1 0)) → (vp_in (S0.1.1 0) 64 ∧ (∀ S_2, S_2 = ((sA S0.1 1 (S0.1.1 0).toNatClampNeg x1), S0.2) → (∀ S_4, S_4 = ((sI S_2.1 0 ((S_2.1.1 0) + (1 : Int32))), S_2.2) → (Q (S_4.1.1 0) S_4)))))
abbrev rmX4_append : Room := { frames := 0, cells := 0, slots := 0, locals := 0 }
set_option maxRecDepth 100000 in
set_option maxHeartbeats 4000000 in
theorem c_X4_append (l : Launch) (D : va_G) (k : Nat → ClassId) (a : Nat → Nat) (S0 : St × St) (sz : Nat) (x1 : Int32) (Q : Int32 → (St × St) → Prop) (h : wp_X4_append S0 x1 Q) : Met l yX4_append wsX4_append rmX4_append (cPc D k (wLe k a S0) [.ref (a 0), .int x1] sz) (va_Qi (fun (r : Int32) (u : (St × St)) => Q r u) (cB D k (va_A (wLe k a S0) sz) (fun u : (St × St) => wLe k a u)) (va_A (wLe k a S0) sz)) 0 0 (va_A (wLe k a S0) sz) := by
  refine ct_entry (cc := cX4_append) (maxL := 2) (ret := (some .int)) (Rn := RX4) (Qc := fun A => (va_Qi (fun (r : Int32) (u : (St × St)) => Q r u) (cB D k A (fun u : (St × St) => wLe k a u)) A)) (by decide) rfl rfl (Nat.le_of_ble_eq_true rfl) ?_
  intro p e s m below meth c hx hb hr hlocks hml hts hown hnw hK A hA H locs hP hD hS ls hl
  have hl : lv_has ls 2 [(0, .ref (a 0)), (1, .int x1)] := hl
  have ln_15 := hts (.fieldLink RX4 15 "WithTheSameOne$Letters" "text" "[I") (by decide +kernel)
  have ln_9 := hts (.fieldLink RX4 9 "WithTheSameOne$Letters" "length" "I") (by decide +kernel)
  have in_Le : ∀ w ∈ wsX40, w ∈ wsX4_append := fun _ h => List.mem_cons_of_mem _ (List.mem_append_right _ h)
  unfold wp_X4_append at h
  refine lv_aload_n hx hb dX4_append_0 rfl (lv_at hl 0 rfl) ?_
  refine va_get (D := D) (ci := 4) (v := .int (S0.1.1 0)) (C := RX4) (T := TX4) (N := 3) hx hb hts in_Le hown hK hP 0 rfl rfl 0 (by decide) ln_9 (fun _ h9 => h9) rfl dX4_append_1 ?_
  refine lv_bipush (v := (64 : Int32)) hx hb dX4_append_4 (by decide) ?_
  refine lv_icmp_ge (tgt := 29) hx hb dX4_append_6 (by decide) (fun c_1 => ?_) (fun c_1 => ?_)
  · have h := h.1 c_1
    refine lv_aload_n hx hb dX4_append_29 rfl (lv_at hl 0 rfl) ?_
    refine va_get (D := D) (ci := 4) (v := .int (S0.1.1 0)) (C := RX4) (T := TX4) (N := 3) hx hb hts in_Le hown hK hP 0 rfl rfl 0 (by decide) ln_9 (fun _ h9 => h9) rfl dX4_append_30 ?_
    exact W.iret (v := (S0.1.1 0)) hx hb hr (fun t ht hW => ⟨⟨(S0.1.1 0), S0, rfl, h, by rw [ht]; exact hP, va_K.moved hW.alike hK, hD⟩, hS.F ht⟩) hS.2.2 dX4_append_33
  · have h := h.2 c_1
    refine lv_aload_n hx hb dX4_append_9 rfl (lv_at hl 0 rfl) ?_
    refine va_get (D := D) (ci := 4) (v := .ref (a 1)) (C := RX4) (T := TX4) (N := 3) hx hb hts in_Le hown hK hP 0 rfl rfl 1 (by decide) ln_15 (fun _ h9 => h9) rfl dX4_append_10 ?_
    refine lv_aload_n hx hb dX4_append_13 rfl (lv_at hl 0 rfl) ?_
    refine va_get (D := D) (ci := 4) (v := .int (S0.1.1 0)) (C := RX4) (T := TX4) (N := 3) hx hb hts in_Le hown hK hP 0 rfl rfl 0 (by decide) ln_9 (fun _ h9 => h9) rfl dX4_append_14 ?_
    refine lv_iload_n hx hb dX4_append_17 rfl (lv_at hl 1 rfl) ?_
    refine va_iast hx hb hK hP hD hS 1 0 rfl rfl h.1 dX4_append_18 (fun H locs hP hD hS => ?_)
    have h := h.2
    obtain ⟨S_2, e_3⟩ : ∃ z : St × St, z = ((sA S0.1 1 (S0.1.1 0).toNatClampNeg x1), S0.2) := ⟨_, rfl⟩
    have h := h S_2 e_3
    have hP : va_P D vwCl (wLe k a S_2) H := by rw [e_3]; exact hP
    have hD : va_D A (wLe k a S_2) := by rw [e_3]; exact hD
    refine lv_aload_n hx hb dX4_append_19 rfl (lv_at hl 0 rfl) ?_
    refine lv_dup hx hb dX4_append_20 rfl ?_
    refine va_get (D := D) (ci := 4) (v := .int (S_2.1.1 0)) (C := RX4) (T := TX4) (N := 3) hx hb hts in_Le hown hK hP 0 rfl rfl 0 (by decide) ln_9 (fun _ h9 => h9) rfl dX4_append_21 ?_
    refine lv_iconst (v := (1 : Int32)) hx hb dX4_append_24 (by decide) ?_
    refine lv_iadd hx hb dX4_append_25 ?_
    refine va_put (D := D) (ci := 4) (v := .int ((S_2.1.1 0) + (1 : Int32))) (ty := .int) (C := RX4) (T := TX4) (N := 3) hx hb hts in_Le tyX4 tyX4_ok nmX4 hown hK hP hD hS 0 rfl rfl 0 (by decide) ln_9 (fun _ h9 => h9) rfl (by decide +kernel) rfl rfl (Nat.le_of_ble_eq_true rfl) dX4_append_26 (fun H locs hP hD hS => ?_)
    obtain ⟨S_4, e_5⟩ : ∃ z : St × St, z = ((sI S_2.1 0 ((S_2.1.1 0) + (1 : Int32))), S_2.2) := ⟨_, rfl⟩
    have h := h S_4 e_5
    have hP : va_P D vwCl (wLe k a S_4) H := by rw [e_5]; exact hP
    have hD : va_D A (wLe k a S_4) := by rw [e_5]; exact hD
    refine lv_aload_n hx hb dX4_append_29 rfl (lv_at hl 0 rfl) ?_
    refine va_get (D := D) (ci := 4) (v := .int (S_4.1.1 0)) (C := RX4) (T := TX4) (N := 3) hx hb hts in_Le hown hK hP 0 rfl rfl 0 (by decide) ln_9 (fun _ h9 => h9) rfl dX4_append_30 ?_
    exact W.iret (v := (S_4.1.1 0)) hx hb hr (fun t ht hW => ⟨⟨(S_4.1.1 0), S_4, rfl, h, by rw [ht]; exact hP, va_K.moved hW.alike hK, hD⟩, hS.F ht⟩) hS.2.2 dX4_append_33
/-! X4_digitsBehind -/
def wp_X4_digitsBehind (S0 : St × St) (x1 : Int32) (Q : Int32 → (St × St) → Prop) : Prop := vp_in x1 64 ∧ (((S0.1.2 1 x1.toNatClampNeg) = (100 : Int32) → (Q (2 : Int32) S0)) ∧ (¬ (S0.1.2 1 x1.toNatClampNeg) = (100 : Int32) → (((S0.1.2 1 x1.toNatClampNeg) = (108 : Int32) → (Q (1 : Int32) S0)) ∧ (¬ (S0.1.2 1 x1.toNatClampNeg) = (108 : Int32) → (((S0.1.2 1 x1.toNatClampNeg) = (112 : Int32) → (Q (2 : Int32) S0)) ∧ (¬ (S0.1.2 1 x1.toNatClampNeg) = (112 : Int32) → (Q (0 : Int32) S0)))))))
abbrev rmX4_digitsBehind : Room := { frames := 0, cells := 0, slots := 0, locals := 0 }
set_option maxRecDepth 100000 in
set_option maxHeartbeats 4000000 in
theorem c_X4_digitsBehind (l : Launch) (D : va_G) (k : Nat → ClassId) (a : Nat → Nat) (S0 : St × St) (sz : Nat) (x1 : Int32) (Q : Int32 → (St × St) → Prop) (h : wp_X4_digitsBehind S0 x1 Q) : Met l yX4_digitsBehind wsX4_digitsBehind rmX4_digitsBehind (cPc D k (wLe k a S0) [.ref (a 0), .int x1] sz) (va_Qi (fun (r : Int32) (u : (St × St)) => Q r u) (cB D k (va_A (wLe k a S0) sz) (fun u : (St × St) => wLe k a u)) (va_A (wLe k a S0) sz)) 0 0 (va_A (wLe k a S0) sz) := by
  refine ct_entry (cc := cX4_digitsBehind) (maxL := 2) (ret := (some .int)) (Rn := RX4) (Qc := fun A => (va_Qi (fun (r : Int32) (u : (St × St)) => Q r u) (cB D k A (fun u : (St × St) => wLe k a u)) A)) (by decide) rfl rfl (Nat.le_of_ble_eq_true rfl) ?_
  intro p e s m below meth c hx hb hr hlocks hml hts hown hnw hK A hA H locs hP hD hS ls hl
  have hl : lv_has ls 2 [(0, .ref (a 0)), (1, .int x1)] := hl
  have ln_15 := hts (.fieldLink RX4 15 "WithTheSameOne$Letters" "text" "[I") (by decide +kernel)
  have in_Le : ∀ w ∈ wsX40, w ∈ wsX4_digitsBehind := fun _ h => List.mem_cons_of_mem _ (List.mem_append_right _ h)
  unfold wp_X4_digitsBehind at h
  refine lv_aload_n hx hb dX4_digitsBehind_0 rfl (lv_at hl 0 rfl) ?_
  refine va_get (D := D) (ci := 4) (v := .ref (a 1)) (C := RX4) (T := TX4) (N := 3) hx hb hts in_Le hown hK hP 0 rfl rfl 1 (by decide) ln_15 (fun _ h9 => h9) rfl dX4_digitsBehind_1 ?_
  refine lv_iload_n hx hb dX4_digitsBehind_4 rfl (lv_at hl 1 rfl) ?_
  refine va_iald hx hb hK hP 1 0 rfl rfl h.1 dX4_digitsBehind_5 ?_
  have h := h.2
  by_cases c_1 : (S0.1.2 1 x1.toNatClampNeg) = (100 : Int32)
  · have h := h.1 c_1
    refine lv_lookup (off := 34) (tgt := 40) hx hb dX4_digitsBehind_6 (by decide) (by rw [c_1]; rfl) (by decide) ?_
    refine lv_iconst (v := (2 : Int32)) hx hb dX4_digitsBehind_40 (by decide) ?_
    exact W.iret (v := (2 : Int32)) hx hb hr (fun t ht hW => ⟨⟨(2 : Int32), S0, rfl, h, by rw [ht]; exact hP, va_K.moved hW.alike hK, hD⟩, hS.F ht⟩) hS.2.2 dX4_digitsBehind_41
  · have h := h.2 c_1
    by_cases c_2 : (S0.1.2 1 x1.toNatClampNeg) = (108 : Int32)
    · have h := h.1 c_2
      refine lv_lookup (off := 36) (tgt := 42) hx hb dX4_digitsBehind_6 (by decide) (by rw [c_2]; rfl) (by decide) ?_
      refine lv_iconst (v := (1 : Int32)) hx hb dX4_digitsBehind_42 (by decide) ?_
      exact W.iret (v := (1 : Int32)) hx hb hr (fun t ht hW => ⟨⟨(1 : Int32), S0, rfl, h, by rw [ht]; exact hP, va_K.moved hW.alike hK, hD⟩, hS.F ht⟩) hS.2.2 dX4_digitsBehind_43
    · have h := h.2 c_2
      by_cases c_3 : (S0.1.2 1 x1.toNatClampNeg) = (112 : Int32)
      · have h := h.1 c_3
        refine lv_lookup (off := 34) (tgt := 40) hx hb dX4_digitsBehind_6 (by decide) (by rw [c_3]; rfl) (by decide) ?_
        refine lv_iconst (v := (2 : Int32)) hx hb dX4_digitsBehind_40 (by decide) ?_
        exact W.iret (v := (2 : Int32)) hx hb hr (fun t ht hW => ⟨⟨(2 : Int32), S0, rfl, h, by rw [ht]; exact hP, va_K.moved hW.alike hK, hD⟩, hS.F ht⟩) hS.2.2 dX4_digitsBehind_41
      · have h := h.2 c_3
        refine lv_lookup (off := 38) (tgt := 44) hx hb dX4_digitsBehind_6 (by decide) (by show Op.lookupswitch.offset [(100, 34), (108, 36), (112, 34)] 38 (S0.1.2 1 x1.toNatClampNeg).toInt = 38; rw [lv_osw c_1 (k := (100 : Int32)) (by decide), lv_osw c_2 (k := (108 : Int32)) (by decide), lv_osw c_3 (k := (112 : Int32)) (by decide)]; rfl) (by decide) ?_
        refine lv_iconst (v := (0 : Int32)) hx hb dX4_digitsBehind_44 (by decide) ?_
        exact W.iret (v := (0 : Int32)) hx hb hr (fun t ht hW => ⟨⟨(0 : Int32), S0, rfl, h, by rw [ht]; exact hP, va_K.moved hW.alike hK, hD⟩, hS.F ht⟩) hS.2.2 dX4_digitsBehind_45
/-! X4_firstWrongLetter -/
def wp_X4_firstWrongLetter_31 (K8 : (St × St) → Int32 → Prop) (x1 : Int32) (Q : Int32 → (St × St) → Prop) : Nat → (St × St) → Int32 → Int32 → Int32 → Prop
  | 0, _, _, _, _ => False
  | n + 1, S0, x2, x3, x4 => ((x3 ≤ x4) → (((x1 ≤ x2) → (Q x2 S0)) ∧ ((¬ x1 ≤ x2) → (vp_in x2 64 ∧ ((((S0.1.2 1 x2.toNatClampNeg) = (59 : Int32)) → (K8 S0 (x2 + 1))) ∧ ((¬ (S0.1.2 1 x2.toNatClampNeg) = (59 : Int32)) → (Q x2 S0))))))) ∧ ((¬ x3 ≤ x4) → (((x1 ≤ x2) → (Q x2 S0)) ∧ ((¬ x1 ≤ x2) → (vp_in x2 64 ∧ ((((S0.1.2 1 x2.toNatClampNeg) < (48 : Int32)) → (Q x2 S0)) ∧ ((¬ (S0.1.2 1 x2.toNatClampNeg) < (48 : Int32)) → (vp_in x2 64 ∧ ((((S0.1.2 1 x2.toNatClampNeg) ≤ (57 : Int32)) → (wp_X4_firstWrongLetter_31 K8 x1 Q n S0 (x2 + 1) x3 (x4 + 1))) ∧ ((¬ (S0.1.2 1 x2.toNatClampNeg) ≤ (57 : Int32)) → (Q x2 S0))))))))))
def wp_X4_firstWrongLetter_8 (x1 : Int32) (Q : Int32 → (St × St) → Prop) : Nat → (St × St) → Int32 → Prop
  | 0, _, _ => False
  | n + 1, S0, x2 => ((x1 ≤ x2) → (Q (-1 : Int32) S0)) ∧ ((¬ x1 ≤ x2) → (wp_X4_digitsBehind S0 x2 (fun r_3 u_4 => ((¬ r_3 = 0) → (∃ i, wp_X4_firstWrongLetter_31 (fun s0 v0 => wp_X4_firstWrongLetter_8 x1 Q n s0 v0) x1 Q i u_4 (x2 + 1) r_3 (0 : Int32))) ∧ ((r_3 = 0) → (Q x2 u_4)))))
def wp_X4_firstWrongLetter (S0 : St × St) (x1 : Int32) (Q : Int32 → (St × St) → Prop) : Prop := ((¬ x1 = 0) → (∃ i, wp_X4_firstWrongLetter_8 x1 Q i S0 (0 : Int32))) ∧ ((x1 = 0) → (Q (0 : Int32) S0))
abbrev rmX4_firstWrongLetter : Room := { frames := 1, cells := 0, slots := 0, locals := 21 }
set_option maxRecDepth 100000 in
set_option maxHeartbeats 4000000 in
theorem c_X4_firstWrongLetter (l : Launch) (D : va_G) (k : Nat → ClassId) (a : Nat → Nat) (S0 : St × St) (sz : Nat) (x1 : Int32) (Q : Int32 → (St × St) → Prop) (h : wp_X4_firstWrongLetter S0 x1 Q) : Met l yX4_firstWrongLetter wsX4_firstWrongLetter rmX4_firstWrongLetter (cPc D k (wLe k a S0) [.ref (a 0), .int x1] sz) (va_Qi (fun (r : Int32) (u : (St × St)) => Q r u) (cB D k (va_A (wLe k a S0) sz) (fun u : (St × St) => wLe k a u)) (va_A (wLe k a S0) sz)) 0 0 (va_A (wLe k a S0) sz) := by
  refine ct_entry (cc := cX4_firstWrongLetter) (maxL := 5) (ret := (some .int)) (Rn := RX4) (Qc := fun A => (va_Qi (fun (r : Int32) (u : (St × St)) => Q r u) (cB D k A (fun u : (St × St) => wLe k a u)) A)) (by decide) rfl rfl (Nat.le_of_ble_eq_true rfl) ?_
  intro p e s m below meth c hx hb hr hlocks hml hts hown hnw hK A hA H locs hP hD hS ls hl
  have hl : lv_has ls 5 [(0, .ref (a 0)), (1, .int x1)] := hl
  have ln_15 := hts (.fieldLink RX4 15 "WithTheSameOne$Letters" "text" "[I") (by decide +kernel)
  have in_Le : ∀ w ∈ wsX40, w ∈ wsX4_firstWrongLetter := fun _ h => List.mem_cons_of_mem _ (List.mem_append_right _ h)
  have L_31 : ∀ (K8 : (St × St) → Int32 → Prop), (∀ (S0 : St × St) (x2 : Int32), ∀ (H : Heap) (locs : List Loc) (ls : Array Slot), va_P D vwCl (wLe k a S0) H → va_D A (wLe k a S0) → va_S A s.heap H locs → lv_has ls 5 [(0, .ref (a 0)), (1, .int x1), (2, .int x2)] → K8 S0 x2 → W p l e rmX4_firstWrongLetter s m ([.ref (a 0), .int x1] : List Value).toArray below meth c H locs 0 0 (MQ below (va_Qi (fun (r : Int32) (u : (St × St)) => Q r u) (cB D k A (fun u : (St × St) => wLe k a u)) A) ([.ref (a 0), .int x1] : List Value).toArray s 0 0 A) (F0 m 8 ls [])) → ∀ (n : Nat), ∀ (S0 : St × St) (x2 : Int32) (x3 : Int32) (x4 : Int32), ∀ (H : Heap) (locs : List Loc) (ls : Array Slot), va_P D vwCl (wLe k a S0) H → va_D A (wLe k a S0) → va_S A s.heap H locs → lv_has ls 5 [(0, .ref (a 0)), (1, .int x1), (2, .int x2), (3, .int x3), (4, .int x4)] → wp_X4_firstWrongLetter_31 K8 x1 Q n S0 x2 x3 x4 → W p l e rmX4_firstWrongLetter s m ([.ref (a 0), .int x1] : List Value).toArray below meth c H locs 0 0 (MQ below (va_Qi (fun (r : Int32) (u : (St × St)) => Q r u) (cB D k A (fun u : (St × St) => wLe k a u)) A) ([.ref (a 0), .int x1] : List Value).toArray s 0 0 A) (F0 m 31 ls []) := by
    intro K8 hK8
    intro n
    induction n with
    | zero => intro S0 x2 x3 x4 H locs ls hP hD hS hl h; exact absurd h (by unfold wp_X4_firstWrongLetter_31; exact id)
    | succ n ih =>
      intro S0 x2 x3 x4 H locs ls hP hD hS hl h
      unfold wp_X4_firstWrongLetter_31 at h
      refine lv_iload hx hb dX4_firstWrongLetter_31 (lv_at hl 4 rfl) ?_
      refine lv_iload_n hx hb dX4_firstWrongLetter_33 rfl (lv_at hl 3 rfl) ?_
      refine lv_icmp_ge (tgt := 75) hx hb dX4_firstWrongLetter_34 (by decide) (fun c_6 => ?_) (fun c_6 => ?_)
      · have h := h.1 c_6
        refine lv_iload_n hx hb dX4_firstWrongLetter_75 rfl (lv_at hl 2 rfl) ?_
        refine lv_iload_n hx hb dX4_firstWrongLetter_76 rfl (lv_at hl 1 rfl) ?_
        refine lv_icmp_ge (tgt := 91) hx hb dX4_firstWrongLetter_77 (by decide) (fun c_7 => ?_) (fun c_7 => ?_)
        · have h := h.1 c_7
          refine lv_iload_n hx hb dX4_firstWrongLetter_91 rfl (lv_at hl 2 rfl) ?_
          exact W.iret (v := x2) hx hb hr (fun t ht hW => ⟨⟨x2, S0, rfl, h, by rw [ht]; exact hP, va_K.moved hW.alike hK, hD⟩, hS.F ht⟩) hS.2.2 dX4_firstWrongLetter_92
        · have h := h.2 c_7
          refine lv_aload_n hx hb dX4_firstWrongLetter_80 rfl (lv_at hl 0 rfl) ?_
          refine va_get (D := D) (ci := 4) (v := .ref (a 1)) (C := RX4) (T := TX4) (N := 3) hx hb hts in_Le hown hK hP 0 rfl rfl 1 (by decide) ln_15 (fun _ h9 => h9) rfl dX4_firstWrongLetter_81 ?_
          refine lv_iload_n hx hb dX4_firstWrongLetter_84 rfl (lv_at hl 2 rfl) ?_
          refine va_iald hx hb hK hP 1 0 rfl rfl h.1 dX4_firstWrongLetter_85 ?_
          have h := h.2
          refine lv_bipush (v := (59 : Int32)) hx hb dX4_firstWrongLetter_86 (by decide) ?_
          refine lv_icmp_eq (tgt := 93) hx hb dX4_firstWrongLetter_88 (by decide) (fun c_8 => ?_) (fun c_8 => ?_)
          · have h := h.1 c_8
            refine lv_iinc (v := (x2 + 1)) (lv' := [(2, .int (x2 + 1)), (0, .ref (a 0)), (1, .int x1), (3, .int x3), (4, .int x4)]) hx hb dX4_firstWrongLetter_93 hl (k := 2) rfl rfl (by decide) rfl (fun ls hl => ?_)
            refine lv_goto (tgt := 8) hx hb dX4_firstWrongLetter_96 (by decide) ?_
            exact hK8 S0 (x2 + 1) H locs ls hP hD hS (lv_sub hl [1, 2, 0] rfl) h
          · have h := h.2 c_8
            refine lv_iload_n hx hb dX4_firstWrongLetter_91 rfl (lv_at hl 2 rfl) ?_
            exact W.iret (v := x2) hx hb hr (fun t ht hW => ⟨⟨x2, S0, rfl, h, by rw [ht]; exact hP, va_K.moved hW.alike hK, hD⟩, hS.F ht⟩) hS.2.2 dX4_firstWrongLetter_92
      · have h := h.2 c_6
        refine lv_iload_n hx hb dX4_firstWrongLetter_37 rfl (lv_at hl 2 rfl) ?_
        refine lv_iload_n hx hb dX4_firstWrongLetter_38 rfl (lv_at hl 1 rfl) ?_
        refine lv_icmp_ge (tgt := 64) hx hb dX4_firstWrongLetter_39 (by decide) (fun c_9 => ?_) (fun c_9 => ?_)
        · have h := h.1 c_9
          refine lv_iload_n hx hb dX4_firstWrongLetter_64 rfl (lv_at hl 2 rfl) ?_
          exact W.iret (v := x2) hx hb hr (fun t ht hW => ⟨⟨x2, S0, rfl, h, by rw [ht]; exact hP, va_K.moved hW.alike hK, hD⟩, hS.F ht⟩) hS.2.2 dX4_firstWrongLetter_65
        · have h := h.2 c_9
          refine lv_aload_n hx hb dX4_firstWrongLetter_42 rfl (lv_at hl 0 rfl) ?_
          refine va_get (D := D) (ci := 4) (v := .ref (a 1)) (C := RX4) (T := TX4) (N := 3) hx hb hts in_Le hown hK hP 0 rfl rfl 1 (by decide) ln_15 (fun _ h9 => h9) rfl dX4_firstWrongLetter_43 ?_
          refine lv_iload_n hx hb dX4_firstWrongLetter_46 rfl (lv_at hl 2 rfl) ?_
          refine va_iald hx hb hK hP 1 0 rfl rfl h.1 dX4_firstWrongLetter_47 ?_
          have h := h.2
          refine lv_bipush (v := (48 : Int32)) hx hb dX4_firstWrongLetter_48 (by decide) ?_
          refine lv_icmp_lt (tgt := 64) hx hb dX4_firstWrongLetter_50 (by decide) (fun c_10 => ?_) (fun c_10 => ?_)
          · have h := h.1 c_10
            refine lv_iload_n hx hb dX4_firstWrongLetter_64 rfl (lv_at hl 2 rfl) ?_
            exact W.iret (v := x2) hx hb hr (fun t ht hW => ⟨⟨x2, S0, rfl, h, by rw [ht]; exact hP, va_K.moved hW.alike hK, hD⟩, hS.F ht⟩) hS.2.2 dX4_firstWrongLetter_65
          · have h := h.2 c_10
            refine lv_aload_n hx hb dX4_firstWrongLetter_53 rfl (lv_at hl 0 rfl) ?_
            refine va_get (D := D) (ci := 4) (v := .ref (a 1)) (C := RX4) (T := TX4) (N := 3) hx hb hts in_Le hown hK hP 0 rfl rfl 1 (by decide) ln_15 (fun _ h9 => h9) rfl dX4_firstWrongLetter_54 ?_
            refine lv_iload_n hx hb dX4_firstWrongLetter_57 rfl (lv_at hl 2 rfl) ?_
            refine va_iald hx hb hK hP 1 0 rfl rfl h.1 dX4_firstWrongLetter_58 ?_
            have h := h.2
            refine lv_bipush (v := (57 : Int32)) hx hb dX4_firstWrongLetter_59 (by decide) ?_
            refine lv_icmp_le (tgt := 66) hx hb dX4_firstWrongLetter_61 (by decide) (fun c_11 => ?_) (fun c_11 => ?_)
            · have h := h.1 c_11
              refine lv_iinc (v := (x2 + 1)) (lv' := [(2, .int (x2 + 1)), (0, .ref (a 0)), (1, .int x1), (3, .int x3), (4, .int x4)]) hx hb dX4_firstWrongLetter_66 hl (k := 2) rfl rfl (by decide) rfl (fun ls hl => ?_)
              refine lv_iinc (v := (x4 + 1)) (lv' := [(4, .int (x4 + 1)), (2, .int (x2 + 1)), (0, .ref (a 0)), (1, .int x1), (3, .int x3)]) hx hb dX4_firstWrongLetter_69 hl (k := 4) rfl rfl (by decide) rfl (fun ls hl => ?_)
              refine lv_goto (tgt := 31) hx hb dX4_firstWrongLetter_72 (by decide) ?_
              exact ih S0 (x2 + 1) x3 (x4 + 1) H locs ls hP hD hS (lv_sub hl [2, 3, 1, 4, 0] rfl) h
            · have h := h.2 c_11
              refine lv_iload_n hx hb dX4_firstWrongLetter_64 rfl (lv_at hl 2 rfl) ?_
              exact W.iret (v := x2) hx hb hr (fun t ht hW => ⟨⟨x2, S0, rfl, h, by rw [ht]; exact hP, va_K.moved hW.alike hK, hD⟩, hS.F ht⟩) hS.2.2 dX4_firstWrongLetter_65
  have L_8 : ∀ (n : Nat), ∀ (S0 : St × St) (x2 : Int32), ∀ (H : Heap) (locs : List Loc) (ls : Array Slot), va_P D vwCl (wLe k a S0) H → va_D A (wLe k a S0) → va_S A s.heap H locs → lv_has ls 5 [(0, .ref (a 0)), (1, .int x1), (2, .int x2)] → wp_X4_firstWrongLetter_8 x1 Q n S0 x2 → W p l e rmX4_firstWrongLetter s m ([.ref (a 0), .int x1] : List Value).toArray below meth c H locs 0 0 (MQ below (va_Qi (fun (r : Int32) (u : (St × St)) => Q r u) (cB D k A (fun u : (St × St) => wLe k a u)) A) ([.ref (a 0), .int x1] : List Value).toArray s 0 0 A) (F0 m 8 ls []) := by
    intro n
    induction n with
    | zero => intro S0 x2 H locs ls hP hD hS hl h; exact absurd h (by unfold wp_X4_firstWrongLetter_8; exact id)
    | succ n ih =>
      intro S0 x2 H locs ls hP hD hS hl h
      unfold wp_X4_firstWrongLetter_8 at h
      refine lv_iload_n hx hb dX4_firstWrongLetter_8 rfl (lv_at hl 2 rfl) ?_
      refine lv_iload_n hx hb dX4_firstWrongLetter_9 rfl (lv_at hl 1 rfl) ?_
      refine lv_icmp_ge (tgt := 99) hx hb dX4_firstWrongLetter_10 (by decide) (fun c_2 => ?_) (fun c_2 => ?_)
      · have h := h.1 c_2
        refine lv_iconst (v := (-1 : Int32)) hx hb dX4_firstWrongLetter_99 (by decide) ?_
        exact W.iret (v := (-1 : Int32)) hx hb hr (fun t ht hW => ⟨⟨(-1 : Int32), S0, rfl, h, by rw [ht]; exact hP, va_K.moved hW.alike hK, hD⟩, hS.F ht⟩) hS.2.2 dX4_firstWrongLetter_100
      · have h := h.2 c_2
        refine lv_aload_n hx hb dX4_firstWrongLetter_13 rfl (lv_at hl 0 rfl) ?_
        refine lv_iload_n hx hb dX4_firstWrongLetter_14 rfl (lv_at hl 2 rfl) ?_
        have hFc := fr_self hD hS hA
        refine gv_i (va_runV (As := [.int x2]) (rest := []) ⟨hx, hb, hml, hown, hts⟩ (c_X4_digitsBehind l D k a S0 H.size x2 _ h) (cwV 1 hts gX4_firstWrongLetter_X4_digitsBehind rfl rfl rfl (by decide +kernel) ⟨Nat.le_of_ble_eq_true rfl, Nat.le_of_ble_eq_true rfl⟩) (gv_preV hK hnw hP hD (ci := 4) rfl 0 rfl) rfl rfl hl.1 rfl (lv_room (Nat.le_of_ble_eq_true rfl)) dX4_firstWrongLetter_15 ⟨Nat.zero_le _, Nat.zero_le _⟩) hS hFc (fun r_3 u_4 H locs h hP1 hD1 hk1 hS => ?_)
        have hP := hP1
        have hD := hD1.weaken (fun _ _ _ z => hFc _ z)
        refine lv_istore_n (lv' := [(3, .int r_3), (0, .ref (a 0)), (1, .int x1), (2, .int x2)]) hx hb dX4_firstWrongLetter_18 rfl hl (by decide) rfl (fun ls hl => ?_)
        refine lv_iload_n hx hb dX4_firstWrongLetter_19 rfl (lv_at hl 0 rfl) ?_
        refine lv_if_ne (tgt := 25) hx hb dX4_firstWrongLetter_20 (by decide) (fun c_5 => ?_) (fun c_5 => ?_)
        · have h := h.1 c_5
          refine lv_iinc (v := (x2 + 1)) (lv' := [(2, .int (x2 + 1)), (3, .int r_3), (0, .ref (a 0)), (1, .int x1)]) hx hb dX4_firstWrongLetter_25 hl (k := 3) rfl rfl (by decide) rfl (fun ls hl => ?_)
          refine lv_iconst (v := (0 : Int32)) hx hb dX4_firstWrongLetter_28 (by decide) ?_
          refine lv_istore (lv' := [(4, .int (0 : Int32)), (2, .int (x2 + 1)), (3, .int r_3), (0, .ref (a 0)), (1, .int x1)]) hx hb dX4_firstWrongLetter_29 hl (by decide) rfl (fun ls hl => ?_)
          obtain ⟨n_12, h⟩ := h
          exact L_31 (fun s0 v0 => wp_X4_firstWrongLetter_8 x1 Q n s0 v0) ih n_12 u_4 (x2 + 1) r_3 (0 : Int32) H locs ls hP hD hS (lv_sub hl [3, 4, 1, 2, 0] rfl) h
        · have h := h.2 c_5
          refine lv_iload_n hx hb dX4_firstWrongLetter_23 rfl (lv_at hl 3 rfl) ?_
          exact W.iret (v := x2) hx hb hr (fun t ht hW => ⟨⟨x2, u_4, rfl, h, by rw [ht]; exact hP, va_K.moved hW.alike hK, hD⟩, hS.F ht⟩) hS.2.2 dX4_firstWrongLetter_24
  unfold wp_X4_firstWrongLetter at h
  refine lv_iload_n hx hb dX4_firstWrongLetter_0 rfl (lv_at hl 1 rfl) ?_
  refine lv_if_ne (tgt := 6) hx hb dX4_firstWrongLetter_1 (by decide) (fun c_1 => ?_) (fun c_1 => ?_)
  · have h := h.1 c_1
    refine lv_iconst (v := (0 : Int32)) hx hb dX4_firstWrongLetter_6 (by decide) ?_
    refine lv_istore_n (lv' := [(2, .int (0 : Int32)), (0, .ref (a 0)), (1, .int x1)]) hx hb dX4_firstWrongLetter_7 rfl hl (by decide) rfl (fun ls hl => ?_)
    obtain ⟨n_13, h⟩ := h
    exact L_8 n_13 S0 (0 : Int32) H locs ls hP hD hS (lv_sub hl [1, 2, 0] rfl) h
  · have h := h.2 c_1
    refine lv_iconst (v := (0 : Int32)) hx hb dX4_firstWrongLetter_4 (by decide) ?_
    exact W.iret (v := (0 : Int32)) hx hb hr (fun t ht hW => ⟨⟨(0 : Int32), S0, rfl, h, by rw [ht]; exact hP, va_K.moved hW.alike hK, hD⟩, hS.F ht⟩) hS.2.2 dX4_firstWrongLetter_5
/-! X4_digitAt -/
def wp_X4_digitAt (S0 : St × St) (x1 : Int32) (Q : Int32 → (St × St) → Prop) : Prop := (((64 : Int32) ≤ x1) → (Q (-1 : Int32) S0)) ∧ ((¬ (64 : Int32) ≤ x1) → (vp_in x1 64 ∧ (Q ((S0.1.2 1 x1.toNatClampNeg) - (48 : Int32)) S0)))
abbrev rmX4_digitAt : Room := { frames := 0, cells := 0, slots := 0, locals := 0 }
set_option maxRecDepth 100000 in
set_option maxHeartbeats 4000000 in
theorem c_X4_digitAt (l : Launch) (D : va_G) (k : Nat → ClassId) (a : Nat → Nat) (S0 : St × St) (sz : Nat) (x1 : Int32) (Q : Int32 → (St × St) → Prop) (h : wp_X4_digitAt S0 x1 Q) : Met l yX4_digitAt wsX4_digitAt rmX4_digitAt (cPc D k (wLe k a S0) [.ref (a 0), .int x1] sz) (va_Qi (fun (r : Int32) (u : (St × St)) => Q r u) (cB D k (va_A (wLe k a S0) sz) (fun u : (St × St) => wLe k a u)) (va_A (wLe k a S0) sz)) 0 0 (va_A (wLe k a S0) sz) := by
  refine ct_entry (cc := cX4_digitAt) (maxL := 2) (ret := (some .int)) (Rn := RX4) (Qc := fun A => (va_Qi (fun (r : Int32) (u : (St × St)) => Q r u) (cB D k A (fun u : (St × St) => wLe k a u)) A)) (by decide) rfl rfl (Nat.le_of_ble_eq_true rfl) ?_
  intro p e s m below meth c hx hb hr hlocks hml hts hown hnw hK A hA H locs hP hD hS ls hl
  have hl : lv_has ls 2 [(0, .ref (a 0)), (1, .int x1)] := hl
  have ln_15 := hts (.fieldLink RX4 15 "WithTheSameOne$Letters" "text" "[I") (by decide +kernel)
  have in_Le : ∀ w ∈ wsX40, w ∈ wsX4_digitAt := fun _ h => List.mem_cons_of_mem _ (List.mem_append_right _ h)
  unfold wp_X4_digitAt at h
  refine lv_iload_n hx hb dX4_digitAt_0 rfl (lv_at hl 1 rfl) ?_
  refine lv_bipush (v := (64 : Int32)) hx hb dX4_digitAt_1 (by decide) ?_
  refine lv_icmp_ge (tgt := 18) hx hb dX4_digitAt_3 (by decide) (fun c_1 => ?_) (fun c_1 => ?_)
  · have h := h.1 c_1
    refine lv_iconst (v := (-1 : Int32)) hx hb dX4_digitAt_18 (by decide) ?_
    exact W.iret (v := (-1 : Int32)) hx hb hr (fun t ht hW => ⟨⟨(-1 : Int32), S0, rfl, h, by rw [ht]; exact hP, va_K.moved hW.alike hK, hD⟩, hS.F ht⟩) hS.2.2 dX4_digitAt_19
  · have h := h.2 c_1
    refine lv_aload_n hx hb dX4_digitAt_6 rfl (lv_at hl 0 rfl) ?_
    refine va_get (D := D) (ci := 4) (v := .ref (a 1)) (C := RX4) (T := TX4) (N := 3) hx hb hts in_Le hown hK hP 0 rfl rfl 1 (by decide) ln_15 (fun _ h9 => h9) rfl dX4_digitAt_7 ?_
    refine lv_iload_n hx hb dX4_digitAt_10 rfl (lv_at hl 1 rfl) ?_
    refine va_iald hx hb hK hP 1 0 rfl rfl h.1 dX4_digitAt_11 ?_
    have h := h.2
    refine lv_bipush (v := (48 : Int32)) hx hb dX4_digitAt_12 (by decide) ?_
    refine lv_isub hx hb dX4_digitAt_14 ?_
    refine lv_goto (tgt := 19) hx hb dX4_digitAt_15 (by decide) ?_
    exact W.iret (v := ((S0.1.2 1 x1.toNatClampNeg) - (48 : Int32))) hx hb hr (fun t ht hW => ⟨⟨((S0.1.2 1 x1.toNatClampNeg) - (48 : Int32)), S0, rfl, h, by rw [ht]; exact hP, va_K.moved hW.alike hK, hD⟩, hS.F ht⟩) hS.2.2 dX4_digitAt_19
/-! X4_isCarriedOut -/
def wp_X4_isCarriedOut (S0 : St × St) (x1 : Int32) (Q : Int32 → (St × St) → Prop) : Prop := vp_in x1 64 ∧ (((S0.1.2 1 x1.toNatClampNeg) = (100 : Int32) → (wp_X4_digitAt S0 (x1 + (1 : Int32)) (fun r_2 u_3 => wp_X4_digitAt u_3 (x1 + (2 : Int32)) (fun r_4 u_5 => wp_X2_admit u_5.2 r_2 r_4 (fun r_6 u_7 => ∀ S_8, S_8 = (u_5.1, u_7) → (bz r_6 ∧ Q r_6 S_8)))))) ∧ (¬ (S0.1.2 1 x1.toNatClampNeg) = (100 : Int32) → (((S0.1.2 1 x1.toNatClampNeg) = (112 : Int32) → (wp_X4_digitAt S0 (x1 + (1 : Int32)) (fun r_11 u_12 => wp_X4_digitAt u_12 (x1 + (2 : Int32)) (fun r_13 u_14 => wp_X2_join u_14.2 r_11 r_13 (fun r_15 u_16 => ∀ S_17, S_17 = (u_14.1, u_16) → (bz r_15 ∧ Q r_15 S_17)))))) ∧ (¬ (S0.1.2 1 x1.toNatClampNeg) = (112 : Int32) → (wp_X4_digitAt S0 (x1 + (1 : Int32)) (fun r_19 u_20 => wp_X2_changeLaw u_20.2 r_19 (fun r_21 u_22 => ∀ S_23, S_23 = (u_20.1, u_22) → (bz r_21 ∧ Q r_21 S_23))))))))
abbrev rmX4_isCarriedOut : Room := { frames := 3, cells := 0, slots := 0, locals := 65 }
set_option maxRecDepth 100000 in
set_option maxHeartbeats 4000000 in
theorem c_X4_isCarriedOut (l : Launch) (D : va_G) (k : Nat → ClassId) (a : Nat → Nat) (S0 : St × St) (sz : Nat) (x1 : Int32) (Q : Int32 → (St × St) → Prop) (h : wp_X4_isCarriedOut S0 x1 Q) : Met l yX4_isCarriedOut wsX4_isCarriedOut rmX4_isCarriedOut (cPc D k (wLe k a S0) [.ref (a 0), .int x1] sz) (va_Qi (fun (r : Int32) (u : (St × St)) => Q r u) (cB D k (va_A (wLe k a S0) sz) (fun u : (St × St) => wLe k a u)) (va_A (wLe k a S0) sz)) 0 0 (va_A (wLe k a S0) sz) := by
  refine ct_entry (cc := cX4_isCarriedOut) (maxL := 2) (ret := (some .boolean)) (Rn := RX4) (Qc := fun A => (va_Qi (fun (r : Int32) (u : (St × St)) => Q r u) (cB D k A (fun u : (St × St) => wLe k a u)) A)) (by decide) rfl rfl (Nat.le_of_ble_eq_true rfl) ?_
  intro p e s m below meth c hx hb hr hlocks hml hts hown hnw hK A hA H locs hP hD hS ls hl
  have hl : lv_has ls 2 [(0, .ref (a 0)), (1, .int x1)] := hl
  have ln_15 := hts (.fieldLink RX4 15 "WithTheSameOne$Letters" "text" "[I") (by decide +kernel)
  have ln_22 := hts (.fieldLink RX4 22 "WithTheSameOne$Letters" "mind" "LWithTheSameOne$Floor;") (by decide +kernel)
  have in_Le : ∀ w ∈ wsX40, w ∈ wsX4_isCarriedOut := fun _ h => List.mem_cons_of_mem _ (List.mem_append_left _ (List.mem_append_right _ h))
  unfold wp_X4_isCarriedOut at h
  refine lv_aload_n hx hb dX4_isCarriedOut_0 rfl (lv_at hl 0 rfl) ?_
  refine va_get (D := D) (ci := 4) (v := .ref (a 1)) (C := RX4) (T := TX4) (N := 3) hx hb hts in_Le hown hK hP 0 rfl rfl 1 (by decide) ln_15 (fun _ h9 => h9) rfl dX4_isCarriedOut_1 ?_
  refine lv_iload_n hx hb dX4_isCarriedOut_4 rfl (lv_at hl 1 rfl) ?_
  refine va_iald hx hb hK hP 1 0 rfl rfl h.1 dX4_isCarriedOut_5 ?_
  have h := h.2
  by_cases c_1 : (S0.1.2 1 x1.toNatClampNeg) = (100 : Int32)
  · have h := h.1 c_1
    refine lv_lookup (off := 26) (tgt := 32) hx hb dX4_isCarriedOut_6 (by decide) (by rw [c_1]; rfl) (by decide) ?_
    refine lv_aload_n hx hb dX4_isCarriedOut_32 rfl (lv_at hl 0 rfl) ?_
    refine va_get (D := D) (ci := 4) (v := .ref (a 2)) (C := RX4) (T := TX4) (N := 3) hx hb hts in_Le hown hK hP 0 rfl rfl 2 (by decide) ln_22 (fun _ h9 => h9) rfl dX4_isCarriedOut_33 ?_
    refine lv_aload_n hx hb dX4_isCarriedOut_36 rfl (lv_at hl 0 rfl) ?_
    refine lv_iload_n hx hb dX4_isCarriedOut_37 rfl (lv_at hl 1 rfl) ?_
    refine lv_iconst (v := (1 : Int32)) hx hb dX4_isCarriedOut_38 (by decide) ?_
    refine lv_iadd hx hb dX4_isCarriedOut_39 ?_
    have hFc := fr_self hD hS hA
    refine gv_i (va_runV (As := [.int (x1 + (1 : Int32))]) (rest := [.ref (a 2)]) ⟨hx, hb, hml, hown, hts⟩ (c_X4_digitAt l D k a S0 H.size (x1 + (1 : Int32)) _ h) (cwV 1 hts gX4_isCarriedOut_X4_digitAt rfl rfl rfl (by decide +kernel) ⟨Nat.le_of_ble_eq_true rfl, Nat.le_of_ble_eq_true rfl⟩) (gv_preV hK hnw hP hD (ci := 4) rfl 0 rfl) rfl rfl hl.1 rfl (lv_room (Nat.le_of_ble_eq_true rfl)) dX4_isCarriedOut_40 ⟨Nat.zero_le _, Nat.zero_le _⟩) hS hFc (fun r_2 u_3 H locs h hP1 hD1 hk1 hS => ?_)
    have hP := hP1
    have hD := hD1.weaken (fun _ _ _ z => hFc _ z)
    refine lv_aload_n hx hb dX4_isCarriedOut_43 rfl (lv_at hl 0 rfl) ?_
    refine lv_iload_n hx hb dX4_isCarriedOut_44 rfl (lv_at hl 1 rfl) ?_
    refine lv_iconst (v := (2 : Int32)) hx hb dX4_isCarriedOut_45 (by decide) ?_
    refine lv_iadd hx hb dX4_isCarriedOut_46 ?_
    have hFc := fr_self hD hS hA
    refine gv_i (va_runV (As := [.int (x1 + (2 : Int32))]) (rest := [.int r_2, .ref (a 2)]) ⟨hx, hb, hml, hown, hts⟩ (c_X4_digitAt l D k a u_3 H.size (x1 + (2 : Int32)) _ h) (cwV 1 hts gX4_isCarriedOut_X4_digitAt rfl rfl rfl (by decide +kernel) ⟨Nat.le_of_ble_eq_true rfl, Nat.le_of_ble_eq_true rfl⟩) (gv_preV hK hnw hP hD (ci := 4) rfl 0 rfl) rfl rfl hl.1 rfl (lv_room (Nat.le_of_ble_eq_true rfl)) dX4_isCarriedOut_47 ⟨Nat.zero_le _, Nat.zero_le _⟩) hS hFc (fun r_4 u_5 H locs h hP1 hD1 hk1 hS => ?_)
    have hP := hP1
    have hD := hD1.weaken (fun _ _ _ z => hFc _ z)
    have hPc := fc14_P hP
    have hDc := fc14_D hD
    have hFc := fr_self hDc hS hA
    refine gv_i (va_runV (As := [.int r_2, .int r_4]) (rest := []) ⟨hx, hb, hml, hown, hts⟩ (c_X2_admit l D k (sh a 2) u_5.2 H.size r_2 r_4 _ h) (cwV 2 hts gX4_isCarriedOut_X2_admit rfl rfl rfl (by decide +kernel) ⟨Nat.le_of_ble_eq_true rfl, Nat.le_of_ble_eq_true rfl⟩) (gv_preV hK hnw hPc hDc (ci := 2) rfl 0 rfl) rfl rfl hl.1 rfl (lv_room (Nat.le_of_ble_eq_true rfl)) dX4_isCarriedOut_50 ⟨Nat.zero_le _, Nat.zero_le _⟩) hS hFc (fun r_6 u_7 H locs h hP1 hD1 hk1 hS => ?_)
    obtain ⟨hP, hD⟩ := fc14_J hP hD hk1 hFc hP1 hD1
    obtain ⟨S_8, e_9⟩ : ∃ z : St × St, z = (u_5.1, u_7) := ⟨_, rfl⟩
    have h := h S_8 e_9
    have hP : va_P D vwCl (wLe k a S_8) H := by rw [e_9]; exact hP
    have hD : va_D A (wLe k a S_8) := by rw [e_9]; exact hD
    exact W.zret (v := r_6) hx hb hr (bz_narrow h.1) (fun t ht hW => ⟨⟨r_6, S_8, rfl, h.2, by rw [ht]; exact hP, va_K.moved hW.alike hK, hD⟩, hS.F ht⟩) hS.2.2 dX4_isCarriedOut_53
  · have h := h.2 c_1
    by_cases c_10 : (S0.1.2 1 x1.toNatClampNeg) = (112 : Int32)
    · have h := h.1 c_10
      refine lv_lookup (off := 48) (tgt := 54) hx hb dX4_isCarriedOut_6 (by decide) (by rw [c_10]; rfl) (by decide) ?_
      refine lv_aload_n hx hb dX4_isCarriedOut_54 rfl (lv_at hl 0 rfl) ?_
      refine va_get (D := D) (ci := 4) (v := .ref (a 2)) (C := RX4) (T := TX4) (N := 3) hx hb hts in_Le hown hK hP 0 rfl rfl 2 (by decide) ln_22 (fun _ h9 => h9) rfl dX4_isCarriedOut_55 ?_
      refine lv_aload_n hx hb dX4_isCarriedOut_58 rfl (lv_at hl 0 rfl) ?_
      refine lv_iload_n hx hb dX4_isCarriedOut_59 rfl (lv_at hl 1 rfl) ?_
      refine lv_iconst (v := (1 : Int32)) hx hb dX4_isCarriedOut_60 (by decide) ?_
      refine lv_iadd hx hb dX4_isCarriedOut_61 ?_
      have hFc := fr_self hD hS hA
      refine gv_i (va_runV (As := [.int (x1 + (1 : Int32))]) (rest := [.ref (a 2)]) ⟨hx, hb, hml, hown, hts⟩ (c_X4_digitAt l D k a S0 H.size (x1 + (1 : Int32)) _ h) (cwV 1 hts gX4_isCarriedOut_X4_digitAt rfl rfl rfl (by decide +kernel) ⟨Nat.le_of_ble_eq_true rfl, Nat.le_of_ble_eq_true rfl⟩) (gv_preV hK hnw hP hD (ci := 4) rfl 0 rfl) rfl rfl hl.1 rfl (lv_room (Nat.le_of_ble_eq_true rfl)) dX4_isCarriedOut_62 ⟨Nat.zero_le _, Nat.zero_le _⟩) hS hFc (fun r_11 u_12 H locs h hP1 hD1 hk1 hS => ?_)
      have hP := hP1
      have hD := hD1.weaken (fun _ _ _ z => hFc _ z)
      refine lv_aload_n hx hb dX4_isCarriedOut_65 rfl (lv_at hl 0 rfl) ?_
      refine lv_iload_n hx hb dX4_isCarriedOut_66 rfl (lv_at hl 1 rfl) ?_
      refine lv_iconst (v := (2 : Int32)) hx hb dX4_isCarriedOut_67 (by decide) ?_
      refine lv_iadd hx hb dX4_isCarriedOut_68 ?_
      have hFc := fr_self hD hS hA
      refine gv_i (va_runV (As := [.int (x1 + (2 : Int32))]) (rest := [.int r_11, .ref (a 2)]) ⟨hx, hb, hml, hown, hts⟩ (c_X4_digitAt l D k a u_12 H.size (x1 + (2 : Int32)) _ h) (cwV 1 hts gX4_isCarriedOut_X4_digitAt rfl rfl rfl (by decide +kernel) ⟨Nat.le_of_ble_eq_true rfl, Nat.le_of_ble_eq_true rfl⟩) (gv_preV hK hnw hP hD (ci := 4) rfl 0 rfl) rfl rfl hl.1 rfl (lv_room (Nat.le_of_ble_eq_true rfl)) dX4_isCarriedOut_69 ⟨Nat.zero_le _, Nat.zero_le _⟩) hS hFc (fun r_13 u_14 H locs h hP1 hD1 hk1 hS => ?_)
      have hP := hP1
      have hD := hD1.weaken (fun _ _ _ z => hFc _ z)
      have hPc := fc14_P hP
      have hDc := fc14_D hD
      have hFc := fr_self hDc hS hA
      refine gv_i (va_runV (As := [.int r_11, .int r_13]) (rest := []) ⟨hx, hb, hml, hown, hts⟩ (c_X2_join l D k (sh a 2) u_14.2 H.size r_11 r_13 _ h) (cwV 2 hts gX4_isCarriedOut_X2_join rfl rfl rfl (by decide +kernel) ⟨Nat.le_of_ble_eq_true rfl, Nat.le_of_ble_eq_true rfl⟩) (gv_preV hK hnw hPc hDc (ci := 2) rfl 0 rfl) rfl rfl hl.1 rfl (lv_room (Nat.le_of_ble_eq_true rfl)) dX4_isCarriedOut_72 ⟨Nat.zero_le _, Nat.zero_le _⟩) hS hFc (fun r_15 u_16 H locs h hP1 hD1 hk1 hS => ?_)
      obtain ⟨hP, hD⟩ := fc14_J hP hD hk1 hFc hP1 hD1
      obtain ⟨S_17, e_18⟩ : ∃ z : St × St, z = (u_14.1, u_16) := ⟨_, rfl⟩
      have h := h S_17 e_18
      have hP : va_P D vwCl (wLe k a S_17) H := by rw [e_18]; exact hP
      have hD : va_D A (wLe k a S_17) := by rw [e_18]; exact hD
      exact W.zret (v := r_15) hx hb hr (bz_narrow h.1) (fun t ht hW => ⟨⟨r_15, S_17, rfl, h.2, by rw [ht]; exact hP, va_K.moved hW.alike hK, hD⟩, hS.F ht⟩) hS.2.2 dX4_isCarriedOut_75
    · have h := h.2 c_10
      refine lv_lookup (off := 70) (tgt := 76) hx hb dX4_isCarriedOut_6 (by decide) (by show Op.lookupswitch.offset [(100, 26), (112, 48)] 70 (S0.1.2 1 x1.toNatClampNeg).toInt = 70; rw [lv_osw c_1 (k := (100 : Int32)) (by decide), lv_osw c_10 (k := (112 : Int32)) (by decide)]; rfl) (by decide) ?_
      refine lv_aload_n hx hb dX4_isCarriedOut_76 rfl (lv_at hl 0 rfl) ?_
      refine va_get (D := D) (ci := 4) (v := .ref (a 2)) (C := RX4) (T := TX4) (N := 3) hx hb hts in_Le hown hK hP 0 rfl rfl 2 (by decide) ln_22 (fun _ h9 => h9) rfl dX4_isCarriedOut_77 ?_
      refine lv_aload_n hx hb dX4_isCarriedOut_80 rfl (lv_at hl 0 rfl) ?_
      refine lv_iload_n hx hb dX4_isCarriedOut_81 rfl (lv_at hl 1 rfl) ?_
      refine lv_iconst (v := (1 : Int32)) hx hb dX4_isCarriedOut_82 (by decide) ?_
      refine lv_iadd hx hb dX4_isCarriedOut_83 ?_
      have hFc := fr_self hD hS hA
      refine gv_i (va_runV (As := [.int (x1 + (1 : Int32))]) (rest := [.ref (a 2)]) ⟨hx, hb, hml, hown, hts⟩ (c_X4_digitAt l D k a S0 H.size (x1 + (1 : Int32)) _ h) (cwV 1 hts gX4_isCarriedOut_X4_digitAt rfl rfl rfl (by decide +kernel) ⟨Nat.le_of_ble_eq_true rfl, Nat.le_of_ble_eq_true rfl⟩) (gv_preV hK hnw hP hD (ci := 4) rfl 0 rfl) rfl rfl hl.1 rfl (lv_room (Nat.le_of_ble_eq_true rfl)) dX4_isCarriedOut_84 ⟨Nat.zero_le _, Nat.zero_le _⟩) hS hFc (fun r_19 u_20 H locs h hP1 hD1 hk1 hS => ?_)
      have hP := hP1
      have hD := hD1.weaken (fun _ _ _ z => hFc _ z)
      have hPc := fc14_P hP
      have hDc := fc14_D hD
      have hFc := fr_self hDc hS hA
      refine gv_i (va_runV (As := [.int r_19]) (rest := []) ⟨hx, hb, hml, hown, hts⟩ (c_X2_changeLaw l D k (sh a 2) u_20.2 H.size r_19 _ h) (cwV 1 hts gX4_isCarriedOut_X2_changeLaw rfl rfl rfl (by decide +kernel) ⟨Nat.le_of_ble_eq_true rfl, Nat.le_of_ble_eq_true rfl⟩) (gv_preV hK hnw hPc hDc (ci := 2) rfl 0 rfl) rfl rfl hl.1 rfl (lv_room (Nat.le_of_ble_eq_true rfl)) dX4_isCarriedOut_87 ⟨Nat.zero_le _, Nat.zero_le _⟩) hS hFc (fun r_21 u_22 H locs h hP1 hD1 hk1 hS => ?_)
      obtain ⟨hP, hD⟩ := fc14_J hP hD hk1 hFc hP1 hD1
      obtain ⟨S_23, e_24⟩ : ∃ z : St × St, z = (u_20.1, u_22) := ⟨_, rfl⟩
      have h := h S_23 e_24
      have hP : va_P D vwCl (wLe k a S_23) H := by rw [e_24]; exact hP
      have hD : va_D A (wLe k a S_23) := by rw [e_24]; exact hD
      exact W.zret (v := r_21) hx hb hr (bz_narrow h.1) (fun t ht hW => ⟨⟨r_21, S_23, rfl, h.2, by rw [ht]; exact hP, va_K.moved hW.alike hK, hD⟩, hS.F ht⟩) hS.2.2 dX4_isCarriedOut_90
/-! X4_tellAll -/
def wp_X4_tellAll_40 (Q : Int32 → (St × St) → St → Prop) : Nat → (St × St) → St → Int32 → Int32 → Int32 → Prop
  | 0, _, _, _, _, _ => False
  | n + 1, S0, S1, x2, x4, x5 => ((x2 ≤ x5) → (wp_X2_copyFrom S1 S0.2 (fun u_14 u_15 => ∀ S_17, S_17 = (S0.1, u_15) → (Q x4 S_17 u_14)))) ∧ ((¬ x2 ≤ x5) → (wp_X4_isCarriedOut S0 x5 (fun r_19 u_20 => ((¬ r_19 = 0) → (wp_X4_digitsBehind u_20 x5 (fun r_22 u_23 => wp_X4_tellAll_40 Q n u_23 S1 x2 (x4 + 1) (x5 + (r_22 + (2 : Int32)))))) ∧ ((r_19 = 0) → (Q ((-2000 : Int32) - x5) u_20 S1)))))
def wp_X4_tellAll (S0 : St × St) (S1 : St) (Q : Int32 → (St × St) → St → Prop) : Prop := ∀ S_1, S_1 = ((sI S0.1 0 (0 : Int32)), S0.2) → (wp_X4_firstWrongLetter S_1 (S0.1.1 0) (fun r_3 u_4 => ((r_3 < 0) → (wp_X2_copyFrom u_4.2 S1 (fun u_7 u_8 => ∀ S_10, S_10 = (u_4.1, u_7) → (∃ i, wp_X4_tellAll_40 Q i S_10 u_8 (S0.1.1 0) (0 : Int32) (0 : Int32))))) ∧ ((¬ r_3 < 0) → (Q ((-1000 : Int32) - r_3) u_4 S1))))
abbrev rmX4_tellAll : Room := { frames := 4, cells := 0, slots := 0, locals := 86 }
set_option maxRecDepth 100000 in
set_option maxHeartbeats 4000000 in
theorem c_X4_tellAll (l : Launch) (D : va_G) (k : Nat → ClassId) (a : Nat → Nat) (b : Nat → Nat) (S0 : St × St) (S1 : St) (sz : Nat) (Q : Int32 → (St × St) → St → Prop) (h : wp_X4_tellAll S0 S1 Q) : Met l yX4_tellAll wsX4_tellAll rmX4_tellAll (cPc D k (wLe k a S0 ++ wFl k b S1) [.ref (a 0), .ref (b 0)] sz) (va_Qi (fun (r : Int32) (u : (St × St) × St) => Q r u.1 u.2) (cB D k (va_A (wLe k a S0 ++ wFl k b S1) sz) (fun u : (St × St) × St => wLe k a u.1 ++ wFl k b u.2)) (va_A (wLe k a S0 ++ wFl k b S1) sz)) 0 0 (va_A (wLe k a S0 ++ wFl k b S1) sz) := by
  refine ct_entry (cc := cX4_tellAll) (maxL := 6) (ret := (some .int)) (Rn := RX4) (Qc := fun A => (va_Qi (fun (r : Int32) (u : (St × St) × St) => Q r u.1 u.2) (cB D k A (fun u : (St × St) × St => wLe k a u.1 ++ wFl k b u.2)) A)) (by decide) rfl rfl (Nat.le_of_ble_eq_true rfl) ?_
  intro p e s m below meth c hx hb hr hlocks hml hts hown hnw hK A hA H locs hP hD hS ls hl
  have hl : lv_has ls 6 [(0, .ref (a 0)), (1, .ref (b 0))] := hl
  have ln_22 := hts (.fieldLink RX4 22 "WithTheSameOne$Letters" "mind" "LWithTheSameOne$Floor;") (by decide +kernel)
  have ln_9 := hts (.fieldLink RX4 9 "WithTheSameOne$Letters" "length" "I") (by decide +kernel)
  have in_Le : ∀ w ∈ wsX40, w ∈ wsX4_tellAll := fun _ h => List.mem_cons_of_mem _ (List.mem_append_left _ (List.mem_append_right _ h))
  have L_40 : ∀ (n : Nat), ∀ (S0 : St × St) (S1 : St) (x2 : Int32) (x4 : Int32) (x5 : Int32), ∀ (H : Heap) (locs : List Loc) (ls : Array Slot), va_P D vwCl (wLe k a S0 ++ wFl k b S1) H → va_D A (wLe k a S0 ++ wFl k b S1) → va_S A s.heap H locs → lv_has ls 6 [(0, .ref (a 0)), (1, .ref (b 0)), (2, .int x2), (4, .int x4), (5, .int x5)] → wp_X4_tellAll_40 Q n S0 S1 x2 x4 x5 → W p l e rmX4_tellAll s m ([.ref (a 0), .ref (b 0)] : List Value).toArray below meth c H locs 0 0 (MQ below (va_Qi (fun (r : Int32) (u : (St × St) × St) => Q r u.1 u.2) (cB D k A (fun u : (St × St) × St => wLe k a u.1 ++ wFl k b u.2)) A) ([.ref (a 0), .ref (b 0)] : List Value).toArray s 0 0 A) (F0 m 40 ls []) := by
    intro n
    induction n with
    | zero => intro S0 S1 x2 x4 x5 H locs ls hP hD hS hl h; exact absurd h (by unfold wp_X4_tellAll_40; exact id)
    | succ n ih =>
      intro S0 S1 x2 x4 x5 H locs ls hP hD hS hl h
      unfold wp_X4_tellAll_40 at h
      refine lv_iload hx hb dX4_tellAll_40 (lv_at hl 4 rfl) ?_
      refine lv_iload_n hx hb dX4_tellAll_42 rfl (lv_at hl 2 rfl) ?_
      refine lv_icmp_ge (tgt := 81) hx hb dX4_tellAll_43 (by decide) (fun c_12 => ?_) (fun c_12 => ?_)
      · have h := h.1 c_12
        refine lv_aload_n hx hb dX4_tellAll_81 rfl (lv_at hl 1 rfl) ?_
        refine lv_aload_n hx hb dX4_tellAll_82 rfl (lv_at hl 0 rfl) ?_
        refine va_get (D := D) (ci := 4) (v := .ref (a 2)) (C := RX4) (T := TX4) (N := 3) hx hb hts in_Le hown hK hP 0 rfl rfl 2 (by decide) ln_22 (fun _ h9 => h9) rfl dX4_tellAll_83 ?_
        have hPc := fc13_P hP
        have hDc := fc13_D hD
        have hFc := fr_self hDc hS hA
        refine gv_v (va_runV (As := [.ref (a 2)]) (rest := []) ⟨hx, hb, hml, hown, hts⟩ (c_X2_copyFrom l D k b (sh a 2) S1 S0.2 H.size _ h) (cwV 1 hts gX4_tellAll_X2_copyFrom rfl rfl rfl (by decide +kernel) ⟨Nat.le_of_ble_eq_true rfl, Nat.le_of_ble_eq_true rfl⟩) (gv_preV hK hnw hPc hDc (ci := 2) rfl 0 rfl) rfl rfl hl.1 rfl (lv_room (Nat.le_of_ble_eq_true rfl)) dX4_tellAll_86 ⟨Nat.zero_le _, Nat.zero_le _⟩) hS hFc (fun w_16 H locs h hP1 hD1 hk1 hS => ?_)
        obtain ⟨u_14, u_15⟩ := w_16
        obtain ⟨hP, hD⟩ := fc13_J hP hD hk1 hFc hP1 hD1
        obtain ⟨S_17, e_18⟩ : ∃ z : St × St, z = (S0.1, u_15) := ⟨_, rfl⟩
        have h := h S_17 e_18
        have hP : va_P D vwCl (wLe k a S_17 ++ wFl k b u_14) H := by rw [e_18]; exact hP
        have hD : va_D A (wLe k a S_17 ++ wFl k b u_14) := by rw [e_18]; exact hD
        refine lv_iload hx hb dX4_tellAll_89 (lv_at hl 3 rfl) ?_
        exact W.iret (v := x4) hx hb hr (fun t ht hW => ⟨⟨x4, (S_17, u_14), rfl, h, by rw [ht]; exact hP, va_K.moved hW.alike hK, hD⟩, hS.F ht⟩) hS.2.2 dX4_tellAll_91
      · have h := h.2 c_12
        refine lv_aload_n hx hb dX4_tellAll_46 rfl (lv_at hl 0 rfl) ?_
        refine lv_iload hx hb dX4_tellAll_47 (lv_at hl 4 rfl) ?_
        have hPc := fc11_P hP
        have hDc := fc11_D hD
        have hFc := fr_self hDc hS hA
        refine gv_i (va_runV (As := [.int x5]) (rest := []) ⟨hx, hb, hml, hown, hts⟩ (c_X4_isCarriedOut l D k a S0 H.size x5 _ h) (cwV 1 hts gX4_tellAll_X4_isCarriedOut rfl rfl rfl (by decide +kernel) ⟨Nat.le_of_ble_eq_true rfl, Nat.le_of_ble_eq_true rfl⟩) (gv_preV hK hnw hPc hDc (ci := 4) rfl 0 rfl) rfl rfl hl.1 rfl (lv_room (Nat.le_of_ble_eq_true rfl)) dX4_tellAll_49 ⟨Nat.zero_le _, Nat.zero_le _⟩) hS hFc (fun r_19 u_20 H locs h hP1 hD1 hk1 hS => ?_)
        obtain ⟨hP, hD⟩ := fc11_J hP hD hk1 hFc hP1 hD1
        refine lv_if_ne (tgt := 62) hx hb dX4_tellAll_52 (by decide) (fun c_21 => ?_) (fun c_21 => ?_)
        · have h := h.1 c_21
          refine lv_iinc (v := (x4 + 1)) (lv' := [(4, .int (x4 + 1)), (0, .ref (a 0)), (1, .ref (b 0)), (2, .int x2), (5, .int x5)]) hx hb dX4_tellAll_62 hl (k := 3) rfl rfl (by decide) rfl (fun ls hl => ?_)
          refine lv_iload hx hb dX4_tellAll_65 (lv_at hl 4 rfl) ?_
          refine lv_aload_n hx hb dX4_tellAll_67 rfl (lv_at hl 1 rfl) ?_
          refine lv_iload hx hb dX4_tellAll_68 (lv_at hl 4 rfl) ?_
          have hPc := fc11_P hP
          have hDc := fc11_D hD
          have hFc := fr_self hDc hS hA
          refine gv_i (va_runV (As := [.int x5]) (rest := [.int x5]) ⟨hx, hb, hml, hown, hts⟩ (c_X4_digitsBehind l D k a u_20 H.size x5 _ h) (cwV 1 hts gX4_tellAll_X4_digitsBehind rfl rfl rfl (by decide +kernel) ⟨Nat.le_of_ble_eq_true rfl, Nat.le_of_ble_eq_true rfl⟩) (gv_preV hK hnw hPc hDc (ci := 4) rfl 0 rfl) rfl rfl hl.1 rfl (lv_room (Nat.le_of_ble_eq_true rfl)) dX4_tellAll_70 ⟨Nat.zero_le _, Nat.zero_le _⟩) hS hFc (fun r_22 u_23 H locs h hP1 hD1 hk1 hS => ?_)
          obtain ⟨hP, hD⟩ := fc11_J hP hD hk1 hFc hP1 hD1
          refine lv_iconst (v := (2 : Int32)) hx hb dX4_tellAll_73 (by decide) ?_
          refine lv_iadd hx hb dX4_tellAll_74 ?_
          refine lv_iadd hx hb dX4_tellAll_75 ?_
          refine lv_istore (lv' := [(5, .int (x5 + (r_22 + (2 : Int32)))), (4, .int (x4 + 1)), (0, .ref (a 0)), (1, .ref (b 0)), (2, .int x2)]) hx hb dX4_tellAll_76 hl (by decide) rfl (fun ls hl => ?_)
          refine lv_goto (tgt := 40) hx hb dX4_tellAll_78 (by decide) ?_
          exact ih u_23 S1 x2 (x4 + 1) (x5 + (r_22 + (2 : Int32))) H locs ls hP hD hS (lv_sub hl [2, 3, 4, 1, 0] rfl) h
        · have h := h.2 c_21
          refine lv_sipush (v := (-2000 : Int32)) hx hb dX4_tellAll_55 (by decide) ?_
          refine lv_iload hx hb dX4_tellAll_58 (lv_at hl 4 rfl) ?_
          refine lv_isub hx hb dX4_tellAll_60 ?_
          exact W.iret (v := ((-2000 : Int32) - x5)) hx hb hr (fun t ht hW => ⟨⟨((-2000 : Int32) - x5), (u_20, S1), rfl, h, by rw [ht]; exact hP, va_K.moved hW.alike hK, hD⟩, hS.F ht⟩) hS.2.2 dX4_tellAll_61
  unfold wp_X4_tellAll at h
  refine lv_aload_n hx hb dX4_tellAll_0 rfl (lv_at hl 0 rfl) ?_
  refine va_get (D := D) (ci := 4) (v := .int (S0.1.1 0)) (C := RX4) (T := TX4) (N := 3) hx hb hts in_Le hown hK hP 0 rfl rfl 0 (by decide) ln_9 (fun _ h9 => h9) rfl dX4_tellAll_1 ?_
  refine lv_istore_n (lv' := [(2, .int (S0.1.1 0)), (0, .ref (a 0)), (1, .ref (b 0))]) hx hb dX4_tellAll_4 rfl hl (by decide) rfl (fun ls hl => ?_)
  refine lv_aload_n hx hb dX4_tellAll_5 rfl (lv_at hl 1 rfl) ?_
  refine lv_iconst (v := (0 : Int32)) hx hb dX4_tellAll_6 (by decide) ?_
  refine va_put (D := D) (ci := 4) (v := .int (0 : Int32)) (ty := .int) (C := RX4) (T := TX4) (N := 3) hx hb hts in_Le tyX4 tyX4_ok nmX4 hown hK hP hD hS 0 rfl rfl 0 (by decide) ln_9 (fun _ h9 => h9) rfl (by decide +kernel) rfl rfl (Nat.le_of_ble_eq_true rfl) dX4_tellAll_7 (fun H locs hP hD hS => ?_)
  obtain ⟨S_1, e_2⟩ : ∃ z : St × St, z = ((sI S0.1 0 (0 : Int32)), S0.2) := ⟨_, rfl⟩
  have h := h S_1 e_2
  have hP : va_P D vwCl (wLe k a S_1 ++ wFl k b S1) H := by rw [e_2]; exact hP
  have hD : va_D A (wLe k a S_1 ++ wFl k b S1) := by rw [e_2]; exact hD
  refine lv_aload_n hx hb dX4_tellAll_10 rfl (lv_at hl 1 rfl) ?_
  refine lv_iload_n hx hb dX4_tellAll_11 rfl (lv_at hl 0 rfl) ?_
  have hPc := fc11_P hP
  have hDc := fc11_D hD
  have hFc := fr_self hDc hS hA
  refine gv_i (va_runV (As := [.int (S0.1.1 0)]) (rest := []) ⟨hx, hb, hml, hown, hts⟩ (c_X4_firstWrongLetter l D k a S_1 H.size (S0.1.1 0) _ h) (cwV 1 hts gX4_tellAll_X4_firstWrongLetter rfl rfl rfl (by decide +kernel) ⟨Nat.le_of_ble_eq_true rfl, Nat.le_of_ble_eq_true rfl⟩) (gv_preV hK hnw hPc hDc (ci := 4) rfl 0 rfl) rfl rfl hl.1 rfl (lv_room (Nat.le_of_ble_eq_true rfl)) dX4_tellAll_12 ⟨Nat.zero_le _, Nat.zero_le _⟩) hS hFc (fun r_3 u_4 H locs h hP1 hD1 hk1 hS => ?_)
  obtain ⟨hP, hD⟩ := fc11_J hP hD hk1 hFc hP1 hD1
  refine lv_istore_n (lv' := [(3, .int r_3), (2, .int (S0.1.1 0)), (0, .ref (a 0)), (1, .ref (b 0))]) hx hb dX4_tellAll_15 rfl hl (by decide) rfl (fun ls hl => ?_)
  refine lv_iload_n hx hb dX4_tellAll_16 rfl (lv_at hl 0 rfl) ?_
  refine lv_if_lt (tgt := 26) hx hb dX4_tellAll_17 (by decide) (fun c_5 => ?_) (fun c_5 => ?_)
  · have h := h.1 c_5
    refine lv_aload_n hx hb dX4_tellAll_26 rfl (lv_at hl 2 rfl) ?_
    refine va_get (D := D) (ci := 4) (v := .ref (a 2)) (C := RX4) (T := TX4) (N := 3) hx hb hts in_Le hown hK hP 0 rfl rfl 2 (by decide) ln_22 (fun _ h9 => h9) rfl dX4_tellAll_27 ?_
    refine lv_aload_n hx hb dX4_tellAll_30 rfl (lv_at hl 3 rfl) ?_
    have hPc := fc12_P hP
    have hDc := fc12_D hD
    have hFc := fr_self hDc hS hA
    refine gv_v (va_runV (As := [.ref (b 0)]) (rest := []) ⟨hx, hb, hml, hown, hts⟩ (c_X2_copyFrom l D k (sh a 2) b u_4.2 S1 H.size _ h) (cwV 1 hts gX4_tellAll_X2_copyFrom rfl rfl rfl (by decide +kernel) ⟨Nat.le_of_ble_eq_true rfl, Nat.le_of_ble_eq_true rfl⟩) (gv_preV hK hnw hPc hDc (ci := 2) rfl 0 rfl) rfl rfl hl.1 rfl (lv_room (Nat.le_of_ble_eq_true rfl)) dX4_tellAll_31 ⟨Nat.zero_le _, Nat.zero_le _⟩) hS hFc (fun w_9 H locs h hP1 hD1 hk1 hS => ?_)
    obtain ⟨u_7, u_8⟩ := w_9
    obtain ⟨hP, hD⟩ := fc12_J hP hD hk1 hFc hP1 hD1
    obtain ⟨S_10, e_11⟩ : ∃ z : St × St, z = (u_4.1, u_7) := ⟨_, rfl⟩
    have h := h S_10 e_11
    have hP : va_P D vwCl (wLe k a S_10 ++ wFl k b u_8) H := by rw [e_11]; exact hP
    have hD : va_D A (wLe k a S_10 ++ wFl k b u_8) := by rw [e_11]; exact hD
    refine lv_iconst (v := (0 : Int32)) hx hb dX4_tellAll_34 (by decide) ?_
    refine lv_istore (lv' := [(4, .int (0 : Int32)), (3, .int r_3), (2, .int (S0.1.1 0)), (0, .ref (a 0)), (1, .ref (b 0))]) hx hb dX4_tellAll_35 hl (by decide) rfl (fun ls hl => ?_)
    refine lv_iconst (v := (0 : Int32)) hx hb dX4_tellAll_37 (by decide) ?_
    refine lv_istore (lv' := [(5, .int (0 : Int32)), (4, .int (0 : Int32)), (3, .int r_3), (2, .int (S0.1.1 0)), (0, .ref (a 0)), (1, .ref (b 0))]) hx hb dX4_tellAll_38 hl (by decide) rfl (fun ls hl => ?_)
    obtain ⟨n_24, h⟩ := h
    exact L_40 n_24 S_10 u_8 (S0.1.1 0) (0 : Int32) (0 : Int32) H locs ls hP hD hS (lv_sub hl [4, 5, 3, 1, 0] rfl) h
  · have h := h.2 c_5
    refine lv_sipush (v := (-1000 : Int32)) hx hb dX4_tellAll_20 (by decide) ?_
    refine lv_iload_n hx hb dX4_tellAll_23 rfl (lv_at hl 0 rfl) ?_
    refine lv_isub hx hb dX4_tellAll_24 ?_
    exact W.iret (v := ((-1000 : Int32) - r_3)) hx hb hr (fun t ht hW => ⟨⟨((-1000 : Int32) - r_3), (u_4, S1), rfl, h, by rw [ht]; exact hP, va_K.moved hW.alike hK, hD⟩, hS.F ht⟩) hS.2.2 dX4_tellAll_25
/-! X5_isReachedBy -/
def wp_X5_isReachedBy_44 (R : (St × (Nat → St)) → Int32 → Int32 → (Int32 → (St × (Nat → St)) → Prop) → Prop) (x1 : Int32) (x2 : Int32) (x3 : Int32) (Q : Int32 → (St × (Nat → St)) → Prop) : Nat → (St × (Nat → St)) → Int32 → Int32 → Int32 → Int32 → Prop
  | 0, _, _, _, _, _ => False
  | n + 1, S0, x6, x7, x8, x9 => (((9 : Int32) < x9) → (Q (0 : Int32) S0)) ∧ ((¬ (9 : Int32) < x9) → (wp_X6_hasBit x8 x9 (fun r_10 => ((r_10 = 0) → (wp_X5_isReachedBy_44 R x1 x2 x3 Q n S0 x6 x7 x8 (x9 + 1))) ∧ ((¬ r_10 = 0) → (((x2 + (1 : Int32)).toNatClampNeg ≠ x2.toNatClampNeg) ∧ (wp_X2_copyFrom (S0.2 ((x2 + (1 : Int32)).toNatClampNeg)) (S0.2 x2.toNatClampNeg) (fun u_13 u_14 => ∀ S_17, S_17 = ((S0.1, va_up S0.2 ((x2 + (1 : Int32)).toNatClampNeg) u_13).1, va_up (S0.1, va_up S0.2 ((x2 + (1 : Int32)).toNatClampNeg) u_13).2 x2.toNatClampNeg u_14) → (wp_X2_step (S_17.2 ((x2 + (1 : Int32)).toNatClampNeg)) x6 x7 x9 (fun u_20 => ∀ S_21, S_21 = (S_17.1, va_up S_17.2 ((x2 + (1 : Int32)).toNatClampNeg) u_20) → (R S_21 (x2 + (1 : Int32)) (x3 - (1 : Int32)) (fun r_23 u_24 => ((r_23 = 0) → (wp_X5_isReachedBy_44 R x1 x2 x3 Q n u_24 x6 x7 x8 (x9 + 1))) ∧ ((¬ r_23 = 0) → (Q (1 : Int32) u_24)))))))))))))
def wp_X5_isReachedBy (R : (St × (Nat → St)) → Int32 → Int32 → (Int32 → (St × (Nat → St)) → Prop) → Prop) (S0 : St × (Nat → St)) (x1 : Int32) (x2 : Int32) (x3 : Int32) (Q : Int32 → (St × (Nat → St)) → Prop) : Prop := vp_in x2 3 ∧ (vp_in (x2 + (1 : Int32)) 3 ∧ (wp_X6_lesserOf x1 (fun r_3 => wp_X6_greaterOf x1 (fun r_4 => wp_X2_waysToDance (S0.2 x2.toNatClampNeg) r_3 r_4 (fun r_5 u_6 => ∀ S_7, S_7 = (S0.1, va_up S0.2 x2.toNatClampNeg u_6) → (∃ i, wp_X5_isReachedBy_44 R x1 x2 x3 Q i S_7 r_3 r_4 r_5 (0 : Int32)))))))
abbrev rmX5_isReached (d : Nat) : Room := { frames := 5 + (2 * d), cells := 0, slots := 0, locals := 118 + (53 * d) }
abbrev rmX5_isReachedBy (d : Nat) : Room := { frames := 5 + (2 * d + 1), cells := 0, slots := 0, locals := 118 + (53 * d + 24) }
set_option maxRecDepth 100000 in
set_option maxHeartbeats 4000000 in
theorem c_X5_isReachedBy (l : Launch) (D : va_G) (k : Nat → ClassId) (d : Nat) (R : (St × (Nat → St)) → Int32 → Int32 → (Int32 → (St × (Nat → St)) → Prop) → Prop) (hR : ∀ (a : Nat → Nat) (S0 : St × (Nat → St)) (sz : Nat) (x1 : Int32) (x2 : Int32) (Q : Int32 → (St × (Nat → St)) → Prop), R S0 x1 x2 Q → Met l yX5_isReached wsX5_isReached (rmX5_isReached d) (cPc D k (wWi k a S0) [.ref (a 0), .int x1, .int x2] sz) (va_Qi (fun (r : Int32) (u : (St × (Nat → St))) => Q r u) (cB D k (va_A (wWi k a S0) sz) (fun u : (St × (Nat → St)) => wWi k a u)) (va_A (wWi k a S0) sz)) 0 0 (va_A (wWi k a S0) sz)) (a : Nat → Nat) (S0 : St × (Nat → St)) (sz : Nat) (x1 : Int32) (x2 : Int32) (x3 : Int32) (Q : Int32 → (St × (Nat → St)) → Prop) (h : wp_X5_isReachedBy R S0 x1 x2 x3 Q) : Met l yX5_isReachedBy wsX5_isReachedBy (rmX5_isReachedBy d) (cPc D k (wWi k a S0) [.ref (a 0), .int x1, .int x2, .int x3] sz) (va_Qi (fun (r : Int32) (u : (St × (Nat → St))) => Q r u) (cB D k (va_A (wWi k a S0) sz) (fun u : (St × (Nat → St)) => wWi k a u)) (va_A (wWi k a S0) sz)) 0 0 (va_A (wWi k a S0) sz) := by
  refine ct_entry (cc := cX5_isReachedBy) (maxL := 10) (ret := (some .boolean)) (Rn := RX5) (Qc := fun A => (va_Qi (fun (r : Int32) (u : (St × (Nat → St))) => Q r u) (cB D k A (fun u : (St × (Nat → St)) => wWi k a u)) A)) (by decide) rfl rfl (Nat.le_of_ble_eq_true rfl) ?_
  intro p e s m below meth c hx hb hr hlocks hml hts hown hnw hK A hA H locs hP hD hS ls hl
  have hl : lv_has ls 10 [(0, .ref (a 0)), (1, .int x1), (2, .int x2), (3, .int x3)] := hl
  have ln_11 := hts (.fieldLink RX5 11 "WithTheSameOne$Wishes" "minds" "[LWithTheSameOne$Floor;") (by decide +kernel)
  have ni_X6 := hts (.initialized RX6) (by decide +kernel)
  have ns_yX6_greaterOf := hts (.static yX6_greaterOf) (by decide +kernel)
  have ns_yX6_hasBit := hts (.static yX6_hasBit) (by decide +kernel)
  have ns_yX6_lesserOf := hts (.static yX6_lesserOf) (by decide +kernel)
  have in_Wi : ∀ w ∈ wsX50, w ∈ wsX5_isReachedBy := fun _ h => List.mem_cons_of_mem _ (List.mem_append_left _ (List.mem_append_right _ h))
  have L_44 : ∀ (n : Nat), ∀ (S0 : St × (Nat → St)) (x6 : Int32) (x7 : Int32) (x8 : Int32) (x9 : Int32), vp_in (x2 + (1 : Int32)) 3 → vp_in x2 3 → ∀ (H : Heap) (locs : List Loc) (ls : Array Slot), va_P D vwCl (wWi k a S0) H → va_D A (wWi k a S0) → va_S A s.heap H locs → lv_has ls 10 [(0, .ref (a 0)), (2, .int x2), (3, .int x3), (4, .ref (a (2 + 5 * x2.toNatClampNeg))), (5, .ref (a (2 + 5 * ((x2 + (1 : Int32)).toNatClampNeg)))), (6, .int x6), (7, .int x7), (8, .int x8), (9, .int x9)] → wp_X5_isReachedBy_44 R x1 x2 x3 Q n S0 x6 x7 x8 x9 → W p l e (rmX5_isReachedBy d) s m ([.ref (a 0), .int x1, .int x2, .int x3] : List Value).toArray below meth c H locs 0 0 (MQ below (va_Qi (fun (r : Int32) (u : (St × (Nat → St))) => Q r u) (cB D k A (fun u : (St × (Nat → St)) => wWi k a u)) A) ([.ref (a 0), .int x1, .int x2, .int x3] : List Value).toArray s 0 0 A) (F0 m 44 ls []) := by
    intro n
    induction n with
    | zero => intro S0 x6 x7 x8 x9 hv_0 hv_1 H locs ls hP hD hS hl h; exact absurd h (by unfold wp_X5_isReachedBy_44; exact id)
    | succ n ih =>
      intro S0 x6 x7 x8 x9 hv_0 hv_1 H locs ls hP hD hS hl h
      unfold wp_X5_isReachedBy_44 at h
      refine lv_iload hx hb dX5_isReachedBy_44 (lv_at hl 8 rfl) ?_
      refine lv_bipush (v := (9 : Int32)) hx hb dX5_isReachedBy_46 (by decide) ?_
      refine lv_icmp_gt (tgt := 100) hx hb dX5_isReachedBy_48 (by decide) (fun c_9 => ?_) (fun c_9 => ?_)
      · have h := h.1 c_9
        refine lv_iconst (v := (0 : Int32)) hx hb dX5_isReachedBy_100 (by decide) ?_
        exact W.zret (v := (0 : Int32)) hx hb hr rfl (fun t ht hW => ⟨⟨(0 : Int32), S0, rfl, h, by rw [ht]; exact hP, va_K.moved hW.alike hK, hD⟩, hS.F ht⟩) hS.2.2 dX5_isReachedBy_101
      · have h := h.2 c_9
        refine lv_iload hx hb dX5_isReachedBy_51 (lv_at hl 7 rfl) ?_
        refine lv_iload hx hb dX5_isReachedBy_53 (lv_at hl 8 rfl) ?_
        refine gs_i (va_runSN (As := [.int x8, .int x9]) (rest := []) ⟨hx, hb, hml, hown, hts⟩ (c_X6_hasBit l x8 x9 _ h) ⟨va_cnB 2 hts gX5_isReachedBy_X6_hasBit_n58 rfl rfl rfl (hnw.1 _ (List.mem_of_getElem? (i := 14) rfl)) ni_X6 (by decide +kernel) ⟨Nat.le_add_right_of_le (Nat.le_of_ble_eq_true rfl), Nat.le_add_right_of_le (Nat.le_of_ble_eq_true rfl)⟩, ns_yX6_hasBit, trivial⟩ preEq rfl rfl hl.1 rfl (lv_room (Nat.le_of_ble_eq_true rfl)) dX5_isReachedBy_55 ⟨Nat.zero_le _, Nat.zero_le _⟩) (fun r_10 h => ?_)
        refine lv_if_eq (tgt := 94) hx hb dX5_isReachedBy_58 (by decide) (fun c_11 => ?_) (fun c_11 => ?_)
        · have h := h.1 c_11
          refine lv_iinc (v := (x9 + 1)) (lv' := [(9, .int (x9 + 1)), (0, .ref (a 0)), (2, .int x2), (3, .int x3), (4, .ref (a (2 + 5 * x2.toNatClampNeg))), (5, .ref (a (2 + 5 * ((x2 + (1 : Int32)).toNatClampNeg)))), (6, .int x6), (7, .int x7), (8, .int x8)]) hx hb dX5_isReachedBy_94 hl (k := 8) rfl rfl (by decide) rfl (fun ls hl => ?_)
          refine lv_goto (tgt := 44) hx hb dX5_isReachedBy_97 (by decide) ?_
          exact ih S0 x6 x7 x8 (x9 + 1) hv_0 hv_1 H locs ls hP hD hS (lv_sub hl [1, 2, 3, 4, 5, 6, 7, 8, 0] rfl) h
        · have h := h.2 c_11
          refine lv_aload hx hb dX5_isReachedBy_61 (lv_at hl 4 rfl) ?_
          refine lv_aload hx hb dX5_isReachedBy_63 (lv_at hl 3 rfl) ?_
          have ne_15 := h.1
          have h := h.2
          have hPc := fc18_P (vp_lt hv_0) (vp_lt hv_1) ne_15 hP
          have hDc := fc18_D (vp_lt hv_0) (vp_lt hv_1) ne_15 hD
          have hFc := fr_self hDc hS hA
          refine gv_v (va_runV (As := [.ref (a (2 + 5 * x2.toNatClampNeg))]) (rest := []) ⟨hx, hb, hml, hown, hts⟩ (c_X2_copyFrom l D k (sh a (2 + 5 * ((x2 + (1 : Int32)).toNatClampNeg))) (sh a (2 + 5 * x2.toNatClampNeg)) (S0.2 ((x2 + (1 : Int32)).toNatClampNeg)) (S0.2 x2.toNatClampNeg) H.size _ h) (cwV 1 hts gX5_isReachedBy_X2_copyFrom rfl rfl rfl (by decide +kernel) ⟨Nat.le_add_right_of_le (Nat.le_of_ble_eq_true rfl), Nat.le_add_right_of_le (Nat.le_of_ble_eq_true rfl)⟩) (gv_preV hK hnw hPc hDc (ci := 2) rfl 0 rfl) rfl rfl hl.1 rfl (lv_room (Nat.le_of_ble_eq_true rfl)) dX5_isReachedBy_65 ⟨Nat.zero_le _, Nat.zero_le _⟩) hS hFc (fun w_16 H locs h hP1 hD1 hk1 hS => ?_)
          obtain ⟨u_13, u_14⟩ := w_16
          obtain ⟨hP, hD⟩ := fc18_J (vp_lt hv_0) (vp_lt hv_1) ne_15 hP hD hk1 hFc hP1 hD1
          obtain ⟨S_17, e_18⟩ : ∃ z : St × (Nat → St), z = ((S0.1, va_up S0.2 ((x2 + (1 : Int32)).toNatClampNeg) u_13).1, va_up (S0.1, va_up S0.2 ((x2 + (1 : Int32)).toNatClampNeg) u_13).2 x2.toNatClampNeg u_14) := ⟨_, rfl⟩
          have h := h S_17 e_18
          have hP : va_P D vwCl (wWi k a S_17) H := by rw [e_18]; exact hP
          have hD : va_D A (wWi k a S_17) := by rw [e_18]; exact hD
          refine lv_aload hx hb dX5_isReachedBy_68 (lv_at hl 4 rfl) ?_
          refine lv_iload hx hb dX5_isReachedBy_70 (lv_at hl 5 rfl) ?_
          refine lv_iload hx hb dX5_isReachedBy_72 (lv_at hl 6 rfl) ?_
          refine lv_iload hx hb dX5_isReachedBy_74 (lv_at hl 8 rfl) ?_
          have hPc := fc17_P (vp_lt hv_0) hP
          have hDc := fc17_D (vp_lt hv_0) hD
          have hFc := fr_self hDc hS hA
          refine gv_v (va_runV (As := [.int x6, .int x7, .int x9]) (rest := []) ⟨hx, hb, hml, hown, hts⟩ (c_X2_step l D k (sh a (2 + 5 * ((x2 + (1 : Int32)).toNatClampNeg))) (S_17.2 ((x2 + (1 : Int32)).toNatClampNeg)) H.size x6 x7 x9 _ h) (cwV 3 hts gX5_isReachedBy_X2_step rfl rfl rfl (by decide +kernel) ⟨Nat.le_add_right_of_le (Nat.le_of_ble_eq_true rfl), Nat.le_add_right_of_le (Nat.le_of_ble_eq_true rfl)⟩) (gv_preV hK hnw hPc hDc (ci := 2) rfl 0 rfl) rfl rfl hl.1 rfl (lv_room (Nat.le_of_ble_eq_true rfl)) dX5_isReachedBy_76 ⟨Nat.zero_le _, Nat.zero_le _⟩) hS hFc (fun u_20 H locs h hP1 hD1 hk1 hS => ?_)
          obtain ⟨hP, hD⟩ := fc17_J (vp_lt hv_0) hP hD hk1 hFc hP1 hD1
          obtain ⟨S_21, e_22⟩ : ∃ z : St × (Nat → St), z = (S_17.1, va_up S_17.2 ((x2 + (1 : Int32)).toNatClampNeg) u_20) := ⟨_, rfl⟩
          have h := h S_21 e_22
          have hP : va_P D vwCl (wWi k a S_21) H := by rw [e_22]; exact hP
          have hD : va_D A (wWi k a S_21) := by rw [e_22]; exact hD
          refine lv_aload_n hx hb dX5_isReachedBy_79 rfl (lv_at hl 0 rfl) ?_
          refine lv_iload_n hx hb dX5_isReachedBy_80 rfl (lv_at hl 1 rfl) ?_
          refine lv_iconst (v := (1 : Int32)) hx hb dX5_isReachedBy_81 (by decide) ?_
          refine lv_iadd hx hb dX5_isReachedBy_82 ?_
          refine lv_iload_n hx hb dX5_isReachedBy_83 rfl (lv_at hl 2 rfl) ?_
          refine lv_iconst (v := (1 : Int32)) hx hb dX5_isReachedBy_84 (by decide) ?_
          refine lv_isub hx hb dX5_isReachedBy_85 ?_
          have hFc := fr_self hD hS hA
          refine gv_i (va_runV (As := [.int (x2 + (1 : Int32)), .int (x3 - (1 : Int32))]) (rest := []) ⟨hx, hb, hml, hown, hts⟩ (hR a S_21 H.size (x2 + (1 : Int32)) (x3 - (1 : Int32)) _ h) (cwV 2 hts gX5_isReachedBy_X5_isReached rfl rfl rfl (by decide +kernel) ⟨by show 5 + (2 * d) + 1 ≤ 5 + (2 * d + 1); omega, by show 8 + (5 + 11) + (118 + (53 * d)) ≤ 118 + (53 * d + 24); omega⟩) (gv_preV hK hnw hP hD (ci := 5) rfl 0 rfl) rfl rfl hl.1 rfl (lv_room (Nat.le_of_ble_eq_true rfl)) dX5_isReachedBy_86 ⟨Nat.zero_le _, Nat.zero_le _⟩) hS hFc (fun r_23 u_24 H locs h hP1 hD1 hk1 hS => ?_)
          have hP := hP1
          have hD := hD1.weaken (fun _ _ _ z => hFc _ z)
          refine lv_if_eq (tgt := 94) hx hb dX5_isReachedBy_89 (by decide) (fun c_25 => ?_) (fun c_25 => ?_)
          · have h := h.1 c_25
            refine lv_iinc (v := (x9 + 1)) (lv' := [(9, .int (x9 + 1)), (0, .ref (a 0)), (2, .int x2), (3, .int x3), (4, .ref (a (2 + 5 * x2.toNatClampNeg))), (5, .ref (a (2 + 5 * ((x2 + (1 : Int32)).toNatClampNeg)))), (6, .int x6), (7, .int x7), (8, .int x8)]) hx hb dX5_isReachedBy_94 hl (k := 8) rfl rfl (by decide) rfl (fun ls hl => ?_)
            refine lv_goto (tgt := 44) hx hb dX5_isReachedBy_97 (by decide) ?_
            exact ih u_24 x6 x7 x8 (x9 + 1) hv_0 hv_1 H locs ls hP hD hS (lv_sub hl [1, 2, 3, 4, 5, 6, 7, 8, 0] rfl) h
          · have h := h.2 c_25
            refine lv_iconst (v := (1 : Int32)) hx hb dX5_isReachedBy_92 (by decide) ?_
            exact W.zret (v := (1 : Int32)) hx hb hr rfl (fun t ht hW => ⟨⟨(1 : Int32), u_24, rfl, h, by rw [ht]; exact hP, va_K.moved hW.alike hK, hD⟩, hS.F ht⟩) hS.2.2 dX5_isReachedBy_93
  unfold wp_X5_isReachedBy at h
  refine lv_aload_n hx hb dX5_isReachedBy_0 rfl (lv_at hl 0 rfl) ?_
  refine va_get (D := D) (ci := 5) (v := .ref (a 1)) (C := RX5) (T := TX5) (N := 3) hx hb hts in_Wi hown hK hP 0 rfl rfl 0 (by decide) ln_11 (fun _ h9 => h9) rfl dX5_isReachedBy_1 ?_
  refine lv_iload_n hx hb dX5_isReachedBy_4 rfl (lv_at hl 2 rfl) ?_
  refine va_aldq (C := RX2) hx hb hK hP 1 1 rfl rfl h.1 dX5_isReachedBy_5 ?_
  have hv_1 := h.1
  have h := h.2
  refine W.eq (g2 := F0 m 6 ls [.ref (a (2 + 5 * x2.toNatClampNeg))]) rfl ?_
  refine lv_astore (lv' := [(4, .ref (a (2 + 5 * x2.toNatClampNeg))), (0, .ref (a 0)), (1, .int x1), (2, .int x2), (3, .int x3)]) hx hb dX5_isReachedBy_6 hl (by decide) rfl (fun ls hl => ?_)
  refine lv_aload_n hx hb dX5_isReachedBy_8 rfl (lv_at hl 1 rfl) ?_
  refine va_get (D := D) (ci := 5) (v := .ref (a 1)) (C := RX5) (T := TX5) (N := 3) hx hb hts in_Wi hown hK hP 0 rfl rfl 0 (by decide) ln_11 (fun _ h9 => h9) rfl dX5_isReachedBy_9 ?_
  refine lv_iload_n hx hb dX5_isReachedBy_12 rfl (lv_at hl 3 rfl) ?_
  refine lv_iconst (v := (1 : Int32)) hx hb dX5_isReachedBy_13 (by decide) ?_
  refine lv_iadd hx hb dX5_isReachedBy_14 ?_
  refine va_aldq (C := RX2) hx hb hK hP 1 1 rfl rfl h.1 dX5_isReachedBy_15 ?_
  have hv_2 := h.1
  have h := h.2
  refine W.eq (g2 := F0 m 16 ls [.ref (a (2 + 5 * ((x2 + (1 : Int32)).toNatClampNeg)))]) rfl ?_
  refine lv_astore (lv' := [(5, .ref (a (2 + 5 * ((x2 + (1 : Int32)).toNatClampNeg)))), (4, .ref (a (2 + 5 * x2.toNatClampNeg))), (0, .ref (a 0)), (1, .int x1), (2, .int x2), (3, .int x3)]) hx hb dX5_isReachedBy_16 hl (by decide) rfl (fun ls hl => ?_)
  refine lv_iload_n hx hb dX5_isReachedBy_18 rfl (lv_at hl 3 rfl) ?_
  refine gs_i (va_runSN (As := [.int x1]) (rest := []) ⟨hx, hb, hml, hown, hts⟩ (c_X6_lesserOf l x1 _ h) ⟨va_cnB 1 hts gX5_isReachedBy_X6_lesserOf_n47 rfl rfl rfl (hnw.1 _ (List.mem_of_getElem? (i := 12) rfl)) ni_X6 (by decide +kernel) ⟨Nat.le_add_right_of_le (Nat.le_of_ble_eq_true rfl), Nat.le_add_right_of_le (Nat.le_of_ble_eq_true rfl)⟩, ns_yX6_lesserOf, trivial⟩ preEq rfl rfl hl.1 rfl (lv_room (Nat.le_of_ble_eq_true rfl)) dX5_isReachedBy_19 ⟨Nat.zero_le _, Nat.zero_le _⟩) (fun r_3 h => ?_)
  refine lv_istore (lv' := [(6, .int r_3), (5, .ref (a (2 + 5 * ((x2 + (1 : Int32)).toNatClampNeg)))), (4, .ref (a (2 + 5 * x2.toNatClampNeg))), (0, .ref (a 0)), (1, .int x1), (2, .int x2), (3, .int x3)]) hx hb dX5_isReachedBy_22 hl (by decide) rfl (fun ls hl => ?_)
  refine lv_iload_n hx hb dX5_isReachedBy_24 rfl (lv_at hl 4 rfl) ?_
  refine gs_i (va_runSN (As := [.int x1]) (rest := []) ⟨hx, hb, hml, hown, hts⟩ (c_X6_greaterOf l x1 _ h) ⟨va_cnB 1 hts gX5_isReachedBy_X6_greaterOf_n51 rfl rfl rfl (hnw.1 _ (List.mem_of_getElem? (i := 13) rfl)) ni_X6 (by decide +kernel) ⟨Nat.le_add_right_of_le (Nat.le_of_ble_eq_true rfl), Nat.le_add_right_of_le (Nat.le_of_ble_eq_true rfl)⟩, ns_yX6_greaterOf, trivial⟩ preEq rfl rfl hl.1 rfl (lv_room (Nat.le_of_ble_eq_true rfl)) dX5_isReachedBy_25 ⟨Nat.zero_le _, Nat.zero_le _⟩) (fun r_4 h => ?_)
  refine lv_istore (lv' := [(7, .int r_4), (6, .int r_3), (5, .ref (a (2 + 5 * ((x2 + (1 : Int32)).toNatClampNeg)))), (4, .ref (a (2 + 5 * x2.toNatClampNeg))), (0, .ref (a 0)), (1, .int x1), (2, .int x2), (3, .int x3)]) hx hb dX5_isReachedBy_28 hl (by decide) rfl (fun ls hl => ?_)
  refine lv_aload hx hb dX5_isReachedBy_30 (lv_at hl 3 rfl) ?_
  refine lv_iload hx hb dX5_isReachedBy_32 (lv_at hl 1 rfl) ?_
  refine lv_iload hx hb dX5_isReachedBy_34 (lv_at hl 0 rfl) ?_
  have hPc := fc17_P (vp_lt hv_1) hP
  have hDc := fc17_D (vp_lt hv_1) hD
  have hFc := fr_self hDc hS hA
  refine gv_i (va_runV (As := [.int r_3, .int r_4]) (rest := []) ⟨hx, hb, hml, hown, hts⟩ (c_X2_waysToDance l D k (sh a (2 + 5 * x2.toNatClampNeg)) (S0.2 x2.toNatClampNeg) H.size r_3 r_4 _ h) (cwV 2 hts gX5_isReachedBy_X2_waysToDance rfl rfl rfl (by decide +kernel) ⟨Nat.le_add_right_of_le (Nat.le_of_ble_eq_true rfl), Nat.le_add_right_of_le (Nat.le_of_ble_eq_true rfl)⟩) (gv_preV hK hnw hPc hDc (ci := 2) rfl 0 rfl) rfl rfl hl.1 rfl (lv_room (Nat.le_of_ble_eq_true rfl)) dX5_isReachedBy_36 ⟨Nat.zero_le _, Nat.zero_le _⟩) hS hFc (fun r_5 u_6 H locs h hP1 hD1 hk1 hS => ?_)
  obtain ⟨hP, hD⟩ := fc17_J (vp_lt hv_1) hP hD hk1 hFc hP1 hD1
  obtain ⟨S_7, e_8⟩ : ∃ z : St × (Nat → St), z = (S0.1, va_up S0.2 x2.toNatClampNeg u_6) := ⟨_, rfl⟩
  have h := h S_7 e_8
  have hP : va_P D vwCl (wWi k a S_7) H := by rw [e_8]; exact hP
  have hD : va_D A (wWi k a S_7) := by rw [e_8]; exact hD
  refine lv_istore (lv' := [(8, .int r_5), (7, .int r_4), (6, .int r_3), (5, .ref (a (2 + 5 * ((x2 + (1 : Int32)).toNatClampNeg)))), (4, .ref (a (2 + 5 * x2.toNatClampNeg))), (0, .ref (a 0)), (1, .int x1), (2, .int x2), (3, .int x3)]) hx hb dX5_isReachedBy_39 hl (by decide) rfl (fun ls hl => ?_)
  refine lv_iconst (v := (0 : Int32)) hx hb dX5_isReachedBy_41 (by decide) ?_
  refine lv_istore (lv' := [(9, .int (0 : Int32)), (8, .int r_5), (7, .int r_4), (6, .int r_3), (5, .ref (a (2 + 5 * ((x2 + (1 : Int32)).toNatClampNeg)))), (4, .ref (a (2 + 5 * x2.toNatClampNeg))), (0, .ref (a 0)), (1, .int x1), (2, .int x2), (3, .int x3)]) hx hb dX5_isReachedBy_42 hl (by decide) rfl (fun ls hl => ?_)
  obtain ⟨n_26, h⟩ := h
  exact L_44 n_26 S_7 r_3 r_4 r_5 (0 : Int32) hv_2 hv_1 H locs ls hP hD hS (lv_sub hl [6, 8, 9, 5, 4, 3, 2, 1, 0] rfl) h
